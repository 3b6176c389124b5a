set_option maxRecDepth 100000 in
set_option maxHeartbeats 4000000 in
theorem wp_X2_append {S : List mjD} {RET : Option Value → mjH → Prop} {p : Nat} (hp : is_Line S p) {a : Int32} {I : Nat → Nat → Int32} {L : Nat → Nat → Int64} (H0 : (((I p 1) < 0 → RET (some (.int (0 : Int32))) (S, I, L)) ∧ (¬ (I p 1) < 0 → (((I p 1) < (40 : Int32) → (vp_in (I p 1) 40) ∧ RET (some (.int (1 : Int32))) (S, mj_up (mj_up I (p + 1) (I p 1).toNatClampNeg a) p 1 (((mj_up I (p + 1) (I p 1).toNatClampNeg a) p 1) + (1 : Int32)), L)) ∧ (¬ (I p 1) < (40 : Int32) → RET (some (.int (0 : Int32))) (S, I, L)))))) : CT mr_X2_append (0, 0) [.ref p, .int a] (S, I, L) RET := by
  refine CT.of (lo := [(0, .ref p), (1, .int a)]) (by decide) (fun _ _ => Nat.le_of_ble_eq_true rfl) (fun _ _ => rfl) rfl ?_
  refine V.aload_n dX2_append_0 rfl rfl ?_
  refine V.getf (v := .int (I p 1)) dX2_append_1 fl_X2_15 hp.1 (by decide) rfl ?_
  refine V.if_lt (tgt := 19) dX2_append_4 (by decide) (fun c1 => ?_) (fun c1 => ?_)
  · have H2 := H0.1 c1
    refine V.iconst (v := (0)) dX2_append_19 (by decide) ?_
    exact V.ret (v := some (.int (0 : Int32))) rfl (Or.inl ⟨_, rfl, dX2_append_20, _, rfl, (by decide)⟩) ⟨Nat.le_refl _, Nat.le_refl _⟩ H2
  · have H3 := H0.2 c1
    refine V.aload_n dX2_append_7 rfl rfl ?_
    refine V.getf (v := .int (I p 1)) dX2_append_8 fl_X2_15 hp.1 (by decide) rfl ?_
    refine V.aload_n dX2_append_11 rfl rfl ?_
    refine V.getf (v := .ref (p + 1)) dX2_append_12 fl_X2_9 hp.1 (by decide) rfl ?_
    refine V.alen (v := 40) dX2_append_15 hp.2 (Or.inl rfl) (by decide) ?_
    refine V.icmp_lt (tgt := 21) dX2_append_16 (by decide) (fun c4 => ?_) (fun c4 => ?_)
    · have H5 := H3.1 c4
      refine V.aload_n dX2_append_21 rfl rfl ?_
      refine V.getf (v := .ref (p + 1)) dX2_append_22 fl_X2_9 hp.1 (by decide) rfl ?_
      refine V.aload_n dX2_append_25 rfl rfl ?_
      refine V.getf (v := .int (I p 1)) dX2_append_26 fl_X2_15 hp.1 (by decide) rfl ?_
      refine V.iload_n dX2_append_29 rfl rfl ?_
      obtain ⟨o6, H7⟩ := H5
      refine V.iast dX2_append_30 hp.2 o6 ?_
      refine V.aload_n dX2_append_31 rfl rfl ?_
      refine V.dup dX2_append_32 rfl ?_
      refine V.getf (v := .int ((mj_up I (p + 1) (I p 1).toNatClampNeg a) p 1)) dX2_append_33 fl_X2_15 hp.1 (by decide) rfl ?_
      refine V.iconst (v := (1)) dX2_append_36 (by decide) ?_
      refine V.iadd dX2_append_37 ?_
      refine V.puti dX2_append_38 fl_X2_15 fp_X2_15 (Or.inl rfl) hp.1 (by decide) rfl rfl ?_
      refine V.iconst (v := (1)) dX2_append_41 (by decide) ?_
      exact V.ret (v := some (.int (1 : Int32))) rfl (Or.inl ⟨_, rfl, dX2_append_42, _, rfl, (by decide)⟩) ⟨Nat.le_refl _, Nat.le_refl _⟩ H7
    · have H8 := H3.2 c4
      refine V.iconst (v := (0)) dX2_append_19 (by decide) ?_
      exact V.ret (v := some (.int (0 : Int32))) rfl (Or.inl ⟨_, rfl, dX2_append_20, _, rfl, (by decide)⟩) ⟨Nat.le_refl _, Nat.le_refl _⟩ H8
set_option maxRecDepth 100000 in
set_option maxHeartbeats 4000000 in
theorem wp_X2_codeAt {S : List mjD} {RET : Option Value → mjH → Prop} {p : Nat} (hp : is_Line S p) {a : Int32} {I : Nat → Nat → Int32} {L : Nat → Nat → Int64} (H0 : ((a < 0 → RET (some (.int (-1 : Int32))) (S, I, L)) ∧ (¬ a < 0 → (((I p 1) ≤ a → RET (some (.int (-1 : Int32))) (S, I, L)) ∧ (¬ (I p 1) ≤ a → (((40 : Int32) ≤ a → RET (some (.int (-1 : Int32))) (S, I, L)) ∧ (¬ (40 : Int32) ≤ a → (vp_in a 40) ∧ RET (some (.int (I (p + 1) a.toNatClampNeg))) (S, I, L)))))))) : CT mr_X2_codeAt (0, 0) [.ref p, .int a] (S, I, L) RET := by
  refine CT.of (lo := [(0, .ref p), (1, .int a)]) (by decide) (fun _ _ => Nat.le_of_ble_eq_true rfl) (fun _ _ => rfl) rfl ?_
  refine V.iload_n dX2_codeAt_0 rfl rfl ?_
  refine V.if_lt (tgt := 30) dX2_codeAt_1 (by decide) (fun c1 => ?_) (fun c1 => ?_)
  · have H2 := H0.1 c1
    refine V.iconst (v := (-1)) dX2_codeAt_30 (by decide) ?_
    exact V.ret (v := some (.int (-1 : Int32))) rfl (Or.inl ⟨_, rfl, dX2_codeAt_31, _, rfl, rfl⟩) ⟨Nat.le_refl _, Nat.le_refl _⟩ H2
  · have H3 := H0.2 c1
    refine V.iload_n dX2_codeAt_4 rfl rfl ?_
    refine V.aload_n dX2_codeAt_5 rfl rfl ?_
    refine V.getf (v := .int (I p 1)) dX2_codeAt_6 fl_X2_15 hp.1 (by decide) rfl ?_
    refine V.icmp_ge (tgt := 30) dX2_codeAt_9 (by decide) (fun c4 => ?_) (fun c4 => ?_)
    · have H5 := H3.1 c4
      refine V.iconst (v := (-1)) dX2_codeAt_30 (by decide) ?_
      exact V.ret (v := some (.int (-1 : Int32))) rfl (Or.inl ⟨_, rfl, dX2_codeAt_31, _, rfl, rfl⟩) ⟨Nat.le_refl _, Nat.le_refl _⟩ H5
    · have H6 := H3.2 c4
      refine V.iload_n dX2_codeAt_12 rfl rfl ?_
      refine V.aload_n dX2_codeAt_13 rfl rfl ?_
      refine V.getf (v := .ref (p + 1)) dX2_codeAt_14 fl_X2_9 hp.1 (by decide) rfl ?_
      refine V.alen (v := 40) dX2_codeAt_17 hp.2 (Or.inl rfl) (by decide) ?_
      refine V.icmp_ge (tgt := 30) dX2_codeAt_18 (by decide) (fun c7 => ?_) (fun c7 => ?_)
      · have H8 := H6.1 c7
        refine V.iconst (v := (-1)) dX2_codeAt_30 (by decide) ?_
        exact V.ret (v := some (.int (-1 : Int32))) rfl (Or.inl ⟨_, rfl, dX2_codeAt_31, _, rfl, rfl⟩) ⟨Nat.le_refl _, Nat.le_refl _⟩ H8
      · have H9 := H6.2 c7
        refine V.aload_n dX2_codeAt_21 rfl rfl ?_
        refine V.getf (v := .ref (p + 1)) dX2_codeAt_22 fl_X2_9 hp.1 (by decide) rfl ?_
        refine V.iload_n dX2_codeAt_25 rfl rfl ?_
        obtain ⟨o10, H11⟩ := H9
        refine V.iald dX2_codeAt_26 hp.2 o10 ?_
        refine V.goto (tgt := 31) dX2_codeAt_27 (by decide) ?_
        exact V.ret (v := some (.int (I (p + 1) a.toNatClampNeg))) rfl (Or.inl ⟨_, rfl, dX2_codeAt_31, _, rfl, rfl⟩) ⟨Nat.le_refl _, Nat.le_refl _⟩ H11
set_option maxRecDepth 100000 in
set_option maxHeartbeats 4000000 in
theorem wp_X3_append {S : List mjD} {RET : Option Value → mjH → Prop} {p : Nat} (hp : is_Notes S p) {a : Int32} {b : Int32} {c : Int32} {I : Nat → Nat → Int32} {L : Nat → Nat → Int64} (H0 : (((I p 2) < 0 → RET (some (.int (0 : Int32))) (S, I, L)) ∧ (¬ (I p 2) < 0 → (((6 : Int32) ≤ (I p 2) → RET (some (.int (0 : Int32))) (S, I, L)) ∧ (¬ (6 : Int32) ≤ (I p 2) → ((b < 0 → RET (some (.int (0 : Int32))) (S, I, L)) ∧ (¬ b < 0 → ((b < (4 : Int32) → (vp_in (I p 2) 6) ∧ ((c = 0 → (vp_in b 4) ∧ (vp_in ((mj_up I (p + 1) (I p 2).toNatClampNeg a) p 2) 6) ∧ RET (some (.int (1 : Int32))) (S, mj_up (mj_up (mj_up I (p + 1) (I p 2).toNatClampNeg a) (p + 2) ((mj_up I (p + 1) (I p 2).toNatClampNeg a) p 2).toNatClampNeg (((mj_st 1000003).getD b.toNatClampNeg 0) ^^^ (-1 : Int32))) p 2 (((mj_up (mj_up I (p + 1) (I p 2).toNatClampNeg a) (p + 2) ((mj_up I (p + 1) (I p 2).toNatClampNeg a) p 2).toNatClampNeg (((mj_st 1000003).getD b.toNatClampNeg 0) ^^^ (-1 : Int32))) p 2) + (1 : Int32)), L)) ∧ (¬ c = 0 → (vp_in b 4) ∧ (vp_in ((mj_up I (p + 1) (I p 2).toNatClampNeg a) p 2) 6) ∧ RET (some (.int (1 : Int32))) (S, mj_up (mj_up (mj_up I (p + 1) (I p 2).toNatClampNeg a) (p + 2) ((mj_up I (p + 1) (I p 2).toNatClampNeg a) p 2).toNatClampNeg ((mj_st 1000003).getD b.toNatClampNeg 0)) p 2 (((mj_up (mj_up I (p + 1) (I p 2).toNatClampNeg a) (p + 2) ((mj_up I (p + 1) (I p 2).toNatClampNeg a) p 2).toNatClampNeg ((mj_st 1000003).getD b.toNatClampNeg 0)) p 2) + (1 : Int32)), L)))) ∧ (¬ b < (4 : Int32) → RET (some (.int (0 : Int32))) (S, I, L)))))))))) : CT mr_X3_append (0, 0) [.ref p, .int a, .int b, .int c] (S, I, L) RET := by
  refine CT.of (lo := [(0, .ref p), (1, .int a), (2, .int b), (3, .int c)]) (by decide) (fun _ _ => Nat.le_of_ble_eq_true rfl) (fun _ _ => rfl) rfl ?_
  refine V.aload_n dX3_append_0 rfl rfl ?_
  refine V.getf (v := .int (I p 2)) dX3_append_1 fl_X3_18 hp.1 (by decide) rfl ?_
  refine V.if_lt (tgt := 28) dX3_append_4 (by decide) (fun c1 => ?_) (fun c1 => ?_)
  · have H2 := H0.1 c1
    refine V.iconst (v := (0)) dX3_append_28 (by decide) ?_
    exact V.ret (v := some (.int (0 : Int32))) rfl (Or.inl ⟨_, rfl, dX3_append_29, _, rfl, (by decide)⟩) ⟨Nat.le_refl _, Nat.le_refl _⟩ H2
  · have H3 := H0.2 c1
    refine V.aload_n dX3_append_7 rfl rfl ?_
    refine V.getf (v := .int (I p 2)) dX3_append_8 fl_X3_18 hp.1 (by decide) rfl ?_
    refine V.bipush (v := (6)) dX3_append_11 (by decide) ?_
    refine V.icmp_ge (tgt := 28) dX3_append_13 (by decide) (fun c4 => ?_) (fun c4 => ?_)
    · have H5 := H3.1 c4
      refine V.iconst (v := (0)) dX3_append_28 (by decide) ?_
      exact V.ret (v := some (.int (0 : Int32))) rfl (Or.inl ⟨_, rfl, dX3_append_29, _, rfl, (by decide)⟩) ⟨Nat.le_refl _, Nat.le_refl _⟩ H5
    · have H6 := H3.2 c4
      refine V.iload_n dX3_append_16 rfl rfl ?_
      refine V.if_lt (tgt := 28) dX3_append_17 (by decide) (fun c7 => ?_) (fun c7 => ?_)
      · have H8 := H6.1 c7
        refine V.iconst (v := (0)) dX3_append_28 (by decide) ?_
        exact V.ret (v := some (.int (0 : Int32))) rfl (Or.inl ⟨_, rfl, dX3_append_29, _, rfl, (by decide)⟩) ⟨Nat.le_refl _, Nat.le_refl _⟩ H8
      · have H9 := H6.2 c7
        refine V.iload_n dX3_append_20 rfl rfl ?_
        refine V.gets_HAPPENS dX3_append_21 gs_X3_22 ?_
        refine V.len_HAPPENS dX3_append_24 ?_
        refine V.icmp_lt (tgt := 30) dX3_append_25 (by decide) (fun c10 => ?_) (fun c10 => ?_)
        · have H11 := H9.1 c10
          refine V.aload_n dX3_append_30 rfl rfl ?_
          refine V.getf (v := .ref (p + 1)) dX3_append_31 fl_X3_9 hp.1 (by decide) rfl ?_
          refine V.aload_n dX3_append_34 rfl rfl ?_
          refine V.getf (v := .int (I p 2)) dX3_append_35 fl_X3_18 hp.1 (by decide) rfl ?_
          refine V.iload_n dX3_append_38 rfl rfl ?_
          obtain ⟨o12, H13⟩ := H11
          refine V.iast dX3_append_39 hp.2.1 o12 ?_
          refine V.aload_n dX3_append_40 rfl rfl ?_
          refine V.getf (v := .ref (p + 2)) dX3_append_41 fl_X3_15 hp.1 (by decide) rfl ?_
          refine V.aload_n dX3_append_44 rfl rfl ?_
          refine V.getf (v := .int ((mj_up I (p + 1) (I p 2).toNatClampNeg a) p 2)) dX3_append_45 fl_X3_18 hp.1 (by decide) rfl ?_
          refine V.iload_n dX3_append_48 rfl rfl ?_
          refine V.if_eq (tgt := 60) dX3_append_49 (by decide) (fun c14 => ?_) (fun c14 => ?_)
          · have H15 := H13.1 c14
            refine V.gets_HAPPENS dX3_append_60 gs_X3_22 ?_
            refine V.iload_n dX3_append_63 rfl rfl ?_
            obtain ⟨o16, H17⟩ := H15
            refine V.ld_HAPPENS dX3_append_64 o16 rfl ?_
            refine V.iconst (v := (-1)) dX3_append_65 (by decide) ?_
            refine V.ixor dX3_append_66 ?_
            obtain ⟨o18, H19⟩ := H17
            refine V.iast dX3_append_67 hp.2.2 o18 ?_
            refine V.aload_n dX3_append_68 rfl rfl ?_
            refine V.dup dX3_append_69 rfl ?_
            refine V.getf (v := .int ((mj_up (mj_up I (p + 1) (I p 2).toNatClampNeg a) (p + 2) ((mj_up I (p + 1) (I p 2).toNatClampNeg a) p 2).toNatClampNeg (((mj_st 1000003).getD b.toNatClampNeg 0) ^^^ (-1 : Int32))) p 2)) dX3_append_70 fl_X3_18 hp.1 (by decide) rfl ?_
            refine V.iconst (v := (1)) dX3_append_73 (by decide) ?_
            refine V.iadd dX3_append_74 ?_
            refine V.puti dX3_append_75 fl_X3_18 fp_X3_18 (Or.inl rfl) hp.1 (by decide) rfl rfl ?_
            refine V.iconst (v := (1)) dX3_append_78 (by decide) ?_
            exact V.ret (v := some (.int (1 : Int32))) rfl (Or.inl ⟨_, rfl, dX3_append_79, _, rfl, (by decide)⟩) ⟨Nat.le_refl _, Nat.le_refl _⟩ H19
          · have H20 := H13.2 c14
            refine V.gets_HAPPENS dX3_append_52 gs_X3_22 ?_
            refine V.iload_n dX3_append_55 rfl rfl ?_
            obtain ⟨o21, H22⟩ := H20
            refine V.ld_HAPPENS dX3_append_56 o21 rfl ?_
            refine V.goto (tgt := 67) dX3_append_57 (by decide) ?_
            obtain ⟨o23, H24⟩ := H22
            refine V.iast dX3_append_67 hp.2.2 o23 ?_
            refine V.aload_n dX3_append_68 rfl rfl ?_
            refine V.dup dX3_append_69 rfl ?_
            refine V.getf (v := .int ((mj_up (mj_up I (p + 1) (I p 2).toNatClampNeg a) (p + 2) ((mj_up I (p + 1) (I p 2).toNatClampNeg a) p 2).toNatClampNeg ((mj_st 1000003).getD b.toNatClampNeg 0)) p 2)) dX3_append_70 fl_X3_18 hp.1 (by decide) rfl ?_
            refine V.iconst (v := (1)) dX3_append_73 (by decide) ?_
            refine V.iadd dX3_append_74 ?_
            refine V.puti dX3_append_75 fl_X3_18 fp_X3_18 (Or.inl rfl) hp.1 (by decide) rfl rfl ?_
            refine V.iconst (v := (1)) dX3_append_78 (by decide) ?_
            exact V.ret (v := some (.int (1 : Int32))) rfl (Or.inl ⟨_, rfl, dX3_append_79, _, rfl, (by decide)⟩) ⟨Nat.le_refl _, Nat.le_refl _⟩ H24
        · have H25 := H9.2 c10
          refine V.iconst (v := (0)) dX3_append_28 (by decide) ?_
          exact V.ret (v := some (.int (0 : Int32))) rfl (Or.inl ⟨_, rfl, dX3_append_29, _, rfl, (by decide)⟩) ⟨Nat.le_refl _, Nat.le_refl _⟩ H25
def hd_X3_copyFrom_10 (S : List mjD) (RET : Option Value → mjH → Prop) (a0 : Nat) (a1 : Nat) (x2 : Int32) (I : Nat → Nat → Int32) (L : Nat → Nat → Int64) : Prop := V mr_X3_copyFrom (0, 0) RET 10 [(0, .ref a0), (1, .ref a1), (2, .int x2)] [] (S, I, L) (0, 0)
set_option maxRecDepth 100000 in
set_option maxHeartbeats 4000000 in
theorem it_X3_copyFrom_10 {S : List mjD} {RET : Option Value → mjH → Prop} {a0 : Nat} (h0 : is_Notes S a0) {a1 : Nat} (h1 : is_Notes S a1) {x2 : Int32} {I : Nat → Nat → Int32} {L : Nat → Nat → Int64} (H0 : (((6 : Int32) ≤ x2 → RET none (S, I, L)) ∧ (¬ (6 : Int32) ≤ x2 → (vp_in x2 6) ∧ (vp_in x2 6) ∧ (vp_in x2 6) ∧ (vp_in x2 6) ∧ ∀ y12 : Int32, y12 = x2 + 1 → hd_X3_copyFrom_10 S RET a0 a1 y12 (mj_up (mj_up I (a0 + 1) x2.toNatClampNeg (I (a1 + 1) x2.toNatClampNeg)) (a0 + 2) x2.toNatClampNeg ((mj_up I (a0 + 1) x2.toNatClampNeg (I (a1 + 1) x2.toNatClampNeg)) (a1 + 2) x2.toNatClampNeg)) L))) : hd_X3_copyFrom_10 S RET a0 a1 x2 I L := by
  unfold hd_X3_copyFrom_10
  refine V.iload_n dX3_copyFrom_10 rfl rfl ?_
  refine V.bipush (v := (6)) dX3_copyFrom_11 (by decide) ?_
  refine V.icmp_ge (tgt := 46) dX3_copyFrom_13 (by decide) (fun c1 => ?_) (fun c1 => ?_)
  · have H2 := H0.1 c1
    exact V.ret rfl (Or.inr (Or.inr (Or.inr ⟨rfl, dX3_copyFrom_46, rfl⟩))) ⟨Nat.le_refl _, Nat.le_refl _⟩ H2
  · have H3 := H0.2 c1
    refine V.aload_n dX3_copyFrom_16 rfl rfl ?_
    refine V.getf (v := .ref (a0 + 1)) dX3_copyFrom_17 fl_X3_9 h0.1 (by decide) rfl ?_
    refine V.iload_n dX3_copyFrom_20 rfl rfl ?_
    refine V.aload_n dX3_copyFrom_21 rfl rfl ?_
    refine V.getf (v := .ref (a1 + 1)) dX3_copyFrom_22 fl_X3_9 h1.1 (by decide) rfl ?_
    refine V.iload_n dX3_copyFrom_25 rfl rfl ?_
    obtain ⟨o4, H5⟩ := H3
    refine V.iald dX3_copyFrom_26 h1.2.1 o4 ?_
    obtain ⟨o6, H7⟩ := H5
    refine V.iast dX3_copyFrom_27 h0.2.1 o6 ?_
    refine V.aload_n dX3_copyFrom_28 rfl rfl ?_
    refine V.getf (v := .ref (a0 + 2)) dX3_copyFrom_29 fl_X3_15 h0.1 (by decide) rfl ?_
    refine V.iload_n dX3_copyFrom_32 rfl rfl ?_
    refine V.aload_n dX3_copyFrom_33 rfl rfl ?_
    refine V.getf (v := .ref (a1 + 2)) dX3_copyFrom_34 fl_X3_15 h1.1 (by decide) rfl ?_
    refine V.iload_n dX3_copyFrom_37 rfl rfl ?_
    obtain ⟨o8, H9⟩ := H7
    refine V.iald dX3_copyFrom_38 h1.2.2 o8 ?_
    obtain ⟨o10, H11⟩ := H9
    refine V.iast dX3_copyFrom_39 h0.2.2 o10 ?_
    obtain ⟨y12, e13⟩ : ∃ y : Int32, y = x2 + 1 := ⟨_, rfl⟩
    have H14 := H11 y12 e13
    refine V.iinc (v := y12) (lo' := [(2, .int y12), (0, .ref a0), (1, .ref a1)]) dX3_copyFrom_40 rfl (by rw [e13]; rfl) (by decide) rfl ?_
    refine V.goto (tgt := 10) dX3_copyFrom_43 (by decide) ?_
    exact V.los [1, 2, 0] rfl H14
set_option maxRecDepth 100000 in
set_option maxHeartbeats 4000000 in
theorem wp_X3_copyFrom {S : List mjD} {RET : Option Value → mjH → Prop} {p : Nat} (hp : is_Notes S p) {q : Nat} (hq : is_Notes S q) {I : Nat → Nat → Int32} {L : Nat → Nat → Int64} (H0 : hd_X3_copyFrom_10 S RET p q (0 : Int32) (mj_up I p 2 (I q 2)) L) : CT mr_X3_copyFrom (0, 0) [.ref p, .ref q] (S, I, L) RET := by
  refine CT.of (lo := [(0, .ref p), (1, .ref q)]) (by decide) (fun _ _ => Nat.le_of_ble_eq_true rfl) (fun _ _ => rfl) rfl ?_
  refine V.aload_n dX3_copyFrom_0 rfl rfl ?_
  refine V.aload_n dX3_copyFrom_1 rfl rfl ?_
  refine V.getf (v := .int (I q 2)) dX3_copyFrom_2 fl_X3_18 hq.1 (by decide) rfl ?_
  refine V.puti dX3_copyFrom_5 fl_X3_18 fp_X3_18 (Or.inl rfl) hp.1 (by decide) rfl rfl ?_
  refine V.iconst (v := (0)) dX3_copyFrom_8 (by decide) ?_
  refine V.istore_n (lo' := [(2, .int (0 : Int32)), (0, .ref p), (1, .ref q)]) dX3_copyFrom_9 rfl (by decide) rfl ?_
  exact V.los [1, 2, 0] rfl H0
def hd_X3_candidates_5 (S : List mjD) (RET : Option Value → mjH → Prop) (a0 : Nat) (x1 : Int32) (x2 : Int32) (x3 : Int32) (I : Nat → Nat → Int32) (L : Nat → Nat → Int64) : Prop := V mr_X3_candidates (0, 0) RET 5 [(0, .ref a0), (1, .int x1), (2, .int x2), (3, .int x3)] [] (S, I, L) (0, 0)
set_option maxRecDepth 100000 in
set_option maxHeartbeats 4000000 in
theorem it_X3_candidates_5 {S : List mjD} {RET : Option Value → mjH → Prop} {a0 : Nat} (h0 : is_Notes S a0) {x1 : Int32} {x2 : Int32} {x3 : Int32} {I : Nat → Nat → Int32} {L : Nat → Nat → Int64} (H0 : (((I a0 2) ≤ x3 → RET (some (.int x2)) (S, I, L)) ∧ (¬ (I a0 2) ≤ x3 → (((6 : Int32) ≤ x3 → RET (some (.int x2)) (S, I, L)) ∧ (¬ (6 : Int32) ≤ x3 → (vp_in x3 6) ∧ ((¬ (I (a0 + 1) x3.toNatClampNeg) = x1 → ∀ y11 : Int32, y11 = x3 + 1 → hd_X3_candidates_5 S RET a0 x1 x2 y11 I L) ∧ ((I (a0 + 1) x3.toNatClampNeg) = x1 → (vp_in x3 6) ∧ ∀ y17 : Int32, y17 = (x2 &&& (I (a0 + 2) x3.toNatClampNeg)) → ∀ y20 : Int32, y20 = x3 + 1 → hd_X3_candidates_5 S RET a0 x1 y17 y20 I L))))))) : hd_X3_candidates_5 S RET a0 x1 x2 x3 I L := by
  unfold hd_X3_candidates_5
  refine V.iload_n dX3_candidates_5 rfl rfl ?_
  refine V.aload_n dX3_candidates_6 rfl rfl ?_
  refine V.getf (v := .int (I a0 2)) dX3_candidates_7 fl_X3_18 h0.1 (by decide) rfl ?_
  refine V.icmp_ge (tgt := 44) dX3_candidates_10 (by decide) (fun c1 => ?_) (fun c1 => ?_)
  · have H2 := H0.1 c1
    refine V.iload_n dX3_candidates_44 rfl rfl ?_
    exact V.ret (v := some (.int x2)) rfl (Or.inl ⟨_, rfl, dX3_candidates_45, _, rfl, rfl⟩) ⟨Nat.le_refl _, Nat.le_refl _⟩ H2
  · have H3 := H0.2 c1
    refine V.iload_n dX3_candidates_13 rfl rfl ?_
    refine V.bipush (v := (6)) dX3_candidates_14 (by decide) ?_
    refine V.icmp_ge (tgt := 44) dX3_candidates_16 (by decide) (fun c4 => ?_) (fun c4 => ?_)
    · have H5 := H3.1 c4
      refine V.iload_n dX3_candidates_44 rfl rfl ?_
      exact V.ret (v := some (.int x2)) rfl (Or.inl ⟨_, rfl, dX3_candidates_45, _, rfl, rfl⟩) ⟨Nat.le_refl _, Nat.le_refl _⟩ H5
    · have H6 := H3.2 c4
      refine V.aload_n dX3_candidates_19 rfl rfl ?_
      refine V.getf (v := .ref (a0 + 1)) dX3_candidates_20 fl_X3_9 h0.1 (by decide) rfl ?_
      refine V.iload_n dX3_candidates_23 rfl rfl ?_
      obtain ⟨o7, H8⟩ := H6
      refine V.iald dX3_candidates_24 h0.2.1 o7 ?_
      refine V.iload_n dX3_candidates_25 rfl rfl ?_
      refine V.icmp_ne (tgt := 38) dX3_candidates_26 (by decide) (fun c9 => ?_) (fun c9 => ?_)
      · have H10 := H8.1 c9
        obtain ⟨y11, e12⟩ : ∃ y : Int32, y = x3 + 1 := ⟨_, rfl⟩
        have H13 := H10 y11 e12
        refine V.iinc (v := y11) (lo' := [(3, .int y11), (0, .ref a0), (1, .int x1), (2, .int x2)]) dX3_candidates_38 rfl (by rw [e12]; rfl) (by decide) rfl ?_
        refine V.goto (tgt := 5) dX3_candidates_41 (by decide) ?_
        exact V.los [1, 2, 3, 0] rfl H13
      · have H14 := H8.2 c9
        refine V.iload_n dX3_candidates_29 rfl rfl ?_
        refine V.aload_n dX3_candidates_30 rfl rfl ?_
        refine V.getf (v := .ref (a0 + 2)) dX3_candidates_31 fl_X3_15 h0.1 (by decide) rfl ?_
        refine V.iload_n dX3_candidates_34 rfl rfl ?_
        obtain ⟨o15, H16⟩ := H14
        refine V.iald dX3_candidates_35 h0.2.2 o15 ?_
        refine V.iand dX3_candidates_36 ?_
        refine V.topi (fun y17 e18 => ?_)
        have H19 := H16 y17 e18
        refine V.istore_n (lo' := [(2, .int y17), (0, .ref a0), (1, .int x1), (3, .int x3)]) dX3_candidates_37 rfl (by decide) rfl ?_
        obtain ⟨y20, e21⟩ : ∃ y : Int32, y = x3 + 1 := ⟨_, rfl⟩
        have H22 := H19 y20 e21
        refine V.iinc (v := y20) (lo' := [(3, .int y20), (2, .int y17), (0, .ref a0), (1, .int x1)]) dX3_candidates_38 rfl (by rw [e21]; rfl) (by decide) rfl ?_
        refine V.goto (tgt := 5) dX3_candidates_41 (by decide) ?_
        exact V.los [2, 3, 1, 0] rfl H22
set_option maxRecDepth 100000 in
set_option maxHeartbeats 4000000 in
theorem wp_X3_candidates {S : List mjD} {RET : Option Value → mjH → Prop} {p : Nat} (hp : is_Notes S p) {a : Int32} {I : Nat → Nat → Int32} {L : Nat → Nat → Int64} (H0 : hd_X3_candidates_5 S RET p a (31 : Int32) (0 : Int32) I L) : CT mr_X3_candidates (0, 0) [.ref p, .int a] (S, I, L) RET := by
  refine CT.of (lo := [(0, .ref p), (1, .int a)]) (by decide) (fun _ _ => Nat.le_of_ble_eq_true rfl) (fun _ _ => rfl) rfl ?_
  refine V.bipush (v := (31)) dX3_candidates_0 (by decide) ?_
  refine V.istore_n (lo' := [(2, .int (31 : Int32)), (0, .ref p), (1, .int a)]) dX3_candidates_2 rfl (by decide) rfl ?_
  refine V.iconst (v := (0)) dX3_candidates_3 (by decide) ?_
  refine V.istore_n (lo' := [(3, .int (0 : Int32)), (2, .int (31 : Int32)), (0, .ref p), (1, .int a)]) dX3_candidates_4 rfl (by decide) rfl ?_
  exact V.los [2, 3, 1, 0] rfl H0
def hd_X4_countAll_4 (S : List mjD) (RET : Option Value → mjH → Prop) (a0 : Nat) (x1 : Int32) (x2 : Int32) (I : Nat → Nat → Int32) (L : Nat → Nat → Int64) : Prop := V mr_X4_countAll (0, 0) RET 4 [(0, .ref a0), (1, .int x1), (2, .int x2)] [] (S, I, L) (0, 0)
set_option maxRecDepth 100000 in
set_option maxHeartbeats 4000000 in
theorem it_X4_countAll_4 {S : List mjD} {RET : Option Value → mjH → Prop} {a0 : Nat} (h0 : is_Parts S a0) {x1 : Int32} {x2 : Int32} {I : Nat → Nat → Int32} {L : Nat → Nat → Int64} (H0 : (((5 : Int32) < x2 → RET (some (.int x1)) (S, I, L)) ∧ (¬ (5 : Int32) < x2 → (vp_in x2 6) ∧ ∀ y6 : Int32, y6 = (x1 + (I (a0 + 3) x2.toNatClampNeg)) → ∀ y9 : Int32, y9 = x2 + 1 → hd_X4_countAll_4 S RET a0 y6 y9 I L))) : hd_X4_countAll_4 S RET a0 x1 x2 I L := by
  unfold hd_X4_countAll_4
  refine V.iload_n dX4_countAll_4 rfl rfl ?_
  refine V.iconst (v := (5)) dX4_countAll_5 (by decide) ?_
  refine V.icmp_gt (tgt := 24) dX4_countAll_6 (by decide) (fun c1 => ?_) (fun c1 => ?_)
  · have H2 := H0.1 c1
    refine V.iload_n dX4_countAll_24 rfl rfl ?_
    exact V.ret (v := some (.int x1)) rfl (Or.inl ⟨_, rfl, dX4_countAll_25, _, rfl, rfl⟩) ⟨Nat.le_refl _, Nat.le_refl _⟩ H2
  · have H3 := H0.2 c1
    refine V.iload_n dX4_countAll_9 rfl rfl ?_
    refine V.aload_n dX4_countAll_10 rfl rfl ?_
    refine V.getf (v := .ref (a0 + 3)) dX4_countAll_11 fl_X4_18 h0.1 (by decide) rfl ?_
    refine V.iload_n dX4_countAll_14 rfl rfl ?_
    obtain ⟨o4, H5⟩ := H3
    refine V.iald dX4_countAll_15 h0.2.2.2 o4 ?_
    refine V.iadd dX4_countAll_16 ?_
    refine V.topi (fun y6 e7 => ?_)
    have H8 := H5 y6 e7
    refine V.istore_n (lo' := [(1, .int y6), (0, .ref a0), (2, .int x2)]) dX4_countAll_17 rfl (by decide) rfl ?_
    obtain ⟨y9, e10⟩ : ∃ y : Int32, y = x2 + 1 := ⟨_, rfl⟩
    have H11 := H8 y9 e10
    refine V.iinc (v := y9) (lo' := [(2, .int y9), (1, .int y6), (0, .ref a0)]) dX4_countAll_18 rfl (by rw [e10]; rfl) (by decide) rfl ?_
    refine V.goto (tgt := 4) dX4_countAll_21 (by decide) ?_
    exact V.los [2, 1, 0] rfl H11
set_option maxRecDepth 100000 in
set_option maxHeartbeats 4000000 in
theorem wp_X4_countAll {S : List mjD} {RET : Option Value → mjH → Prop} {p : Nat} (hp : is_Parts S p) {I : Nat → Nat → Int32} {L : Nat → Nat → Int64} (H0 : hd_X4_countAll_4 S RET p (0 : Int32) (1 : Int32) I L) : CT mr_X4_countAll (0, 0) [.ref p] (S, I, L) RET := by
  refine CT.of (lo := [(0, .ref p)]) (by decide) (fun _ _ => Nat.le_of_ble_eq_true rfl) (fun _ _ => rfl) rfl ?_
  refine V.iconst (v := (0)) dX4_countAll_0 (by decide) ?_
  refine V.istore_n (lo' := [(1, .int (0 : Int32)), (0, .ref p)]) dX4_countAll_1 rfl (by decide) rfl ?_
  refine V.iconst (v := (1)) dX4_countAll_2 (by decide) ?_
  refine V.istore_n (lo' := [(2, .int (1 : Int32)), (1, .int (0 : Int32)), (0, .ref p)]) dX4_countAll_3 rfl (by decide) rfl ?_
  exact V.los [2, 1, 0] rfl H0
def hd_X4_degreeDigits_4 (S : List mjD) (RET : Option Value → mjH → Prop) (a0 : Nat) (x1 : Int32) (x2 : Int32) (I : Nat → Nat → Int32) (L : Nat → Nat → Int64) : Prop := V mr_X4_degreeDigits (0, 0) RET 4 [(0, .ref a0), (1, .int x1), (2, .int x2)] [] (S, I, L) (0, 0)
def hd_X4_degreeDigits_11 (S : List mjD) (RET : Option Value → mjH → Prop) (a0 : Nat) (x1 : Int32) (x2 : Int32) (x3 : Int32) (I : Nat → Nat → Int32) (L : Nat → Nat → Int64) : Prop := V mr_X4_degreeDigits (0, 0) RET 11 [(0, .ref a0), (1, .int x1), (2, .int x2), (3, .int x3)] [] (S, I, L) (0, 0)
set_option maxRecDepth 100000 in
set_option maxHeartbeats 4000000 in
theorem it_X4_degreeDigits_4 {S : List mjD} {RET : Option Value → mjH → Prop} {a0 : Nat} (h0 : is_Parts S a0) {x1 : Int32} {x2 : Int32} {I : Nat → Nat → Int32} {L : Nat → Nat → Int64} (H0 : (((5 : Int32) < x2 → RET (some (.int x1)) (S, I, L)) ∧ (¬ (5 : Int32) < x2 → hd_X4_degreeDigits_11 S RET a0 x1 x2 (0 : Int32) I L))) : hd_X4_degreeDigits_4 S RET a0 x1 x2 I L := by
  unfold hd_X4_degreeDigits_4
  refine V.iload_n dX4_degreeDigits_4 rfl rfl ?_
  refine V.iconst (v := (5)) dX4_degreeDigits_5 (by decide) ?_
  refine V.icmp_gt (tgt := 40) dX4_degreeDigits_6 (by decide) (fun c1 => ?_) (fun c1 => ?_)
  · have H2 := H0.1 c1
    refine V.iload_n dX4_degreeDigits_40 rfl rfl ?_
    exact V.ret (v := some (.int x1)) rfl (Or.inl ⟨_, rfl, dX4_degreeDigits_41, _, rfl, rfl⟩) ⟨Nat.le_refl _, Nat.le_refl _⟩ H2
  · have H3 := H0.2 c1
    refine V.iconst (v := (0)) dX4_degreeDigits_9 (by decide) ?_
    refine V.istore_n (lo' := [(3, .int (0 : Int32)), (0, .ref a0), (1, .int x1), (2, .int x2)]) dX4_degreeDigits_10 rfl (by decide) rfl ?_
    exact V.los [1, 2, 3, 0] rfl H3
set_option maxRecDepth 100000 in
set_option maxHeartbeats 4000000 in
theorem it_X4_degreeDigits_11 {S : List mjD} {RET : Option Value → mjH → Prop} {a0 : Nat} (h0 : is_Parts S a0) {x1 : Int32} {x2 : Int32} {x3 : Int32} {I : Nat → Nat → Int32} {L : Nat → Nat → Int64} (H0 : (vp_in x2 6) ∧ (((I (a0 + 3) x2.toNatClampNeg) ≤ x3 → ∀ y8 : Int32, y8 = x2 + 1 → hd_X4_degreeDigits_4 S RET a0 x1 y8 I L) ∧ (¬ (I (a0 + 3) x2.toNatClampNeg) ≤ x3 → ∀ y12 : Int32, y12 = (((10 : Int32) * x1) + x2) → ∀ y15 : Int32, y15 = x3 + 1 → hd_X4_degreeDigits_11 S RET a0 y12 x2 y15 I L))) : hd_X4_degreeDigits_11 S RET a0 x1 x2 x3 I L := by
  unfold hd_X4_degreeDigits_11
  refine V.iload_n dX4_degreeDigits_11 rfl rfl ?_
  refine V.aload_n dX4_degreeDigits_12 rfl rfl ?_
  refine V.getf (v := .ref (a0 + 3)) dX4_degreeDigits_13 fl_X4_18 h0.1 (by decide) rfl ?_
  refine V.iload_n dX4_degreeDigits_16 rfl rfl ?_
  obtain ⟨o4, H5⟩ := H0
  refine V.iald dX4_degreeDigits_17 h0.2.2.2 o4 ?_
  refine V.icmp_ge (tgt := 34) dX4_degreeDigits_18 (by decide) (fun c6 => ?_) (fun c6 => ?_)
  · have H7 := H5.1 c6
    obtain ⟨y8, e9⟩ : ∃ y : Int32, y = x2 + 1 := ⟨_, rfl⟩
    have H10 := H7 y8 e9
    refine V.iinc (v := y8) (lo' := [(2, .int y8), (0, .ref a0), (1, .int x1), (3, .int x3)]) dX4_degreeDigits_34 rfl (by rw [e9]; rfl) (by decide) rfl ?_
    refine V.goto (tgt := 4) dX4_degreeDigits_37 (by decide) ?_
    exact V.los [1, 2, 0] rfl H10
  · have H11 := H5.2 c6
    refine V.bipush (v := (10)) dX4_degreeDigits_21 (by decide) ?_
    refine V.iload_n dX4_degreeDigits_23 rfl rfl ?_
    refine V.imul dX4_degreeDigits_24 ?_
    refine V.iload_n dX4_degreeDigits_25 rfl rfl ?_
    refine V.iadd dX4_degreeDigits_26 ?_
    refine V.topi (fun y12 e13 => ?_)
    have H14 := H11 y12 e13
    refine V.istore_n (lo' := [(1, .int y12), (0, .ref a0), (2, .int x2), (3, .int x3)]) dX4_degreeDigits_27 rfl (by decide) rfl ?_
    obtain ⟨y15, e16⟩ : ∃ y : Int32, y = x3 + 1 := ⟨_, rfl⟩
    have H17 := H14 y15 e16
    refine V.iinc (v := y15) (lo' := [(3, .int y15), (1, .int y12), (0, .ref a0), (2, .int x2)]) dX4_degreeDigits_28 rfl (by rw [e16]; rfl) (by decide) rfl ?_
    refine V.goto (tgt := 11) dX4_degreeDigits_31 (by decide) ?_
    exact V.los [2, 1, 3, 0] rfl H17
set_option maxRecDepth 100000 in
set_option maxHeartbeats 4000000 in
theorem wp_X4_degreeDigits {S : List mjD} {RET : Option Value → mjH → Prop} {p : Nat} (hp : is_Parts S p) {I : Nat → Nat → Int32} {L : Nat → Nat → Int64} (H0 : hd_X4_degreeDigits_4 S RET p (0 : Int32) (1 : Int32) I L) : CT mr_X4_degreeDigits (0, 0) [.ref p] (S, I, L) RET := by
  refine CT.of (lo := [(0, .ref p)]) (by decide) (fun _ _ => Nat.le_of_ble_eq_true rfl) (fun _ _ => rfl) rfl ?_
  refine V.iconst (v := (0)) dX4_degreeDigits_0 (by decide) ?_
  refine V.istore_n (lo' := [(1, .int (0 : Int32)), (0, .ref p)]) dX4_degreeDigits_1 rfl (by decide) rfl ?_
  refine V.iconst (v := (1)) dX4_degreeDigits_2 (by decide) ?_
  refine V.istore_n (lo' := [(2, .int (1 : Int32)), (1, .int (0 : Int32)), (0, .ref p)]) dX4_degreeDigits_3 rfl (by decide) rfl ?_
  exact V.los [2, 1, 0] rfl H0
def hd_X4_degreeSums_4 (S : List mjD) (RET : Option Value → mjH → Prop) (a0 : Nat) (x1 : Int32) (x2 : Int32) (I : Nat → Nat → Int32) (L : Nat → Nat → Int64) : Prop := V mr_X4_degreeSums (0, 0) RET 4 [(0, .ref a0), (1, .int x1), (2, .int x2)] [] (S, I, L) (0, 0)
def hd_X4_degreeSums_11 (S : List mjD) (RET : Option Value → mjH → Prop) (a0 : Nat) (x1 : Int32) (x2 : Int32) (x3 : Int32) (I : Nat → Nat → Int32) (L : Nat → Nat → Int64) : Prop := V mr_X4_degreeSums (0, 0) RET 11 [(0, .ref a0), (1, .int x1), (2, .int x2), (3, .int x3)] [] (S, I, L) (0, 0)
set_option maxRecDepth 100000 in
set_option maxHeartbeats 4000000 in
theorem it_X4_degreeSums_4 {S : List mjD} {RET : Option Value → mjH → Prop} {a0 : Nat} (h0 : is_Parts S a0) {x1 : Int32} {x2 : Int32} {I : Nat → Nat → Int32} {L : Nat → Nat → Int64} (H0 : (((5 : Int32) < x2 → RET (some (.int x1)) (S, I, L)) ∧ (¬ (5 : Int32) < x2 → hd_X4_degreeSums_11 S RET a0 x1 x2 (0 : Int32) I L))) : hd_X4_degreeSums_4 S RET a0 x1 x2 I L := by
  unfold hd_X4_degreeSums_4
  refine V.iload_n dX4_degreeSums_4 rfl rfl ?_
  refine V.iconst (v := (5)) dX4_degreeSums_5 (by decide) ?_
  refine V.icmp_gt (tgt := 39) dX4_degreeSums_6 (by decide) (fun c1 => ?_) (fun c1 => ?_)
  · have H2 := H0.1 c1
    refine V.iload_n dX4_degreeSums_39 rfl rfl ?_
    exact V.ret (v := some (.int x1)) rfl (Or.inl ⟨_, rfl, dX4_degreeSums_40, _, rfl, rfl⟩) ⟨Nat.le_refl _, Nat.le_refl _⟩ H2
  · have H3 := H0.2 c1
    refine V.iconst (v := (0)) dX4_degreeSums_9 (by decide) ?_
    refine V.istore_n (lo' := [(3, .int (0 : Int32)), (0, .ref a0), (1, .int x1), (2, .int x2)]) dX4_degreeSums_10 rfl (by decide) rfl ?_
    exact V.los [1, 2, 3, 0] rfl H3
set_option maxRecDepth 100000 in
set_option maxHeartbeats 4000000 in
theorem it_X4_degreeSums_11 {S : List mjD} {RET : Option Value → mjH → Prop} {a0 : Nat} (h0 : is_Parts S a0) {x1 : Int32} {x2 : Int32} {x3 : Int32} {I : Nat → Nat → Int32} {L : Nat → Nat → Int64} (H0 : (vp_in x2 6) ∧ (((I (a0 + 3) x2.toNatClampNeg) ≤ x3 → ∀ y8 : Int32, y8 = x2 + 1 → hd_X4_degreeSums_4 S RET a0 x1 y8 I L) ∧ (¬ (I (a0 + 3) x2.toNatClampNeg) ≤ x3 → ∀ y12 : Int32, y12 = (x1 ||| (x1 <<< (x2 &&& 31))) → ∀ y15 : Int32, y15 = x3 + 1 → hd_X4_degreeSums_11 S RET a0 y12 x2 y15 I L))) : hd_X4_degreeSums_11 S RET a0 x1 x2 x3 I L := by
  unfold hd_X4_degreeSums_11
  refine V.iload_n dX4_degreeSums_11 rfl rfl ?_
  refine V.aload_n dX4_degreeSums_12 rfl rfl ?_
  refine V.getf (v := .ref (a0 + 3)) dX4_degreeSums_13 fl_X4_18 h0.1 (by decide) rfl ?_
  refine V.iload_n dX4_degreeSums_16 rfl rfl ?_
  obtain ⟨o4, H5⟩ := H0
  refine V.iald dX4_degreeSums_17 h0.2.2.2 o4 ?_
  refine V.icmp_ge (tgt := 33) dX4_degreeSums_18 (by decide) (fun c6 => ?_) (fun c6 => ?_)
  · have H7 := H5.1 c6
    obtain ⟨y8, e9⟩ : ∃ y : Int32, y = x2 + 1 := ⟨_, rfl⟩
    have H10 := H7 y8 e9
    refine V.iinc (v := y8) (lo' := [(2, .int y8), (0, .ref a0), (1, .int x1), (3, .int x3)]) dX4_degreeSums_33 rfl (by rw [e9]; rfl) (by decide) rfl ?_
    refine V.goto (tgt := 4) dX4_degreeSums_36 (by decide) ?_
    exact V.los [1, 2, 0] rfl H10
  · have H11 := H5.2 c6
    refine V.iload_n dX4_degreeSums_21 rfl rfl ?_
    refine V.iload_n dX4_degreeSums_22 rfl rfl ?_
    refine V.iload_n dX4_degreeSums_23 rfl rfl ?_
    refine V.ishl dX4_degreeSums_24 ?_
    refine V.ior dX4_degreeSums_25 ?_
    refine V.topi (fun y12 e13 => ?_)
    have H14 := H11 y12 e13
    refine V.istore_n (lo' := [(1, .int y12), (0, .ref a0), (2, .int x2), (3, .int x3)]) dX4_degreeSums_26 rfl (by decide) rfl ?_
    obtain ⟨y15, e16⟩ : ∃ y : Int32, y = x3 + 1 := ⟨_, rfl⟩
    have H17 := H14 y15 e16
    refine V.iinc (v := y15) (lo' := [(3, .int y15), (1, .int y12), (0, .ref a0), (2, .int x2)]) dX4_degreeSums_27 rfl (by rw [e16]; rfl) (by decide) rfl ?_
    refine V.goto (tgt := 11) dX4_degreeSums_30 (by decide) ?_
    exact V.los [2, 1, 3, 0] rfl H17
set_option maxRecDepth 100000 in
set_option maxHeartbeats 4000000 in
theorem wp_X4_degreeSums {S : List mjD} {RET : Option Value → mjH → Prop} {p : Nat} (hp : is_Parts S p) {I : Nat → Nat → Int32} {L : Nat → Nat → Int64} (H0 : hd_X4_degreeSums_4 S RET p (1 : Int32) (1 : Int32) I L) : CT mr_X4_degreeSums (0, 0) [.ref p] (S, I, L) RET := by
  refine CT.of (lo := [(0, .ref p)]) (by decide) (fun _ _ => Nat.le_of_ble_eq_true rfl) (fun _ _ => rfl) rfl ?_
  refine V.iconst (v := (1)) dX4_degreeSums_0 (by decide) ?_
  refine V.istore_n (lo' := [(1, .int (1 : Int32)), (0, .ref p)]) dX4_degreeSums_1 rfl (by decide) rfl ?_
  refine V.iconst (v := (1)) dX4_degreeSums_2 (by decide) ?_
  refine V.istore_n (lo' := [(2, .int (1 : Int32)), (1, .int (1 : Int32)), (0, .ref p)]) dX4_degreeSums_3 rfl (by decide) rfl ?_
  exact V.los [2, 1, 0] rfl H0
set_option maxRecDepth 100000 in
set_option maxHeartbeats 4000000 in
theorem wp_X5_at {S : List mjD} {RET : Option Value → mjH → Prop} {p : Nat} (hp : is_Poly S p) {a : Int32} {I : Nat → Nat → Int32} {L : Nat → Nat → Int64} (H0 : ((a < 0 → RET (some (.long (0 : Int64))) (S, I, L)) ∧ (¬ a < 0 → (((6 : Int32) ≤ a → RET (some (.long (0 : Int64))) (S, I, L)) ∧ (¬ (6 : Int32) ≤ a → (vp_in a 6) ∧ RET (some (.long (L (p + 1) a.toNatClampNeg))) (S, I, L)))))) : CT mr_X5_at (0, 0) [.ref p, .int a] (S, I, L) RET := by
  refine CT.of (lo := [(0, .ref p), (1, .int a)]) (by decide) (fun _ _ => Nat.le_of_ble_eq_true rfl) (fun _ _ => rfl) rfl ?_
  refine V.iload_n dX5_at_0 rfl rfl ?_
  refine V.if_lt (tgt := 19) dX5_at_1 (by decide) (fun c1 => ?_) (fun c1 => ?_)
  · have H2 := H0.1 c1
    refine V.lconst (v := 0) dX5_at_19 (by decide) ?_
    exact V.ret (v := some (.long (0 : Int64))) rfl (Or.inr (Or.inl ⟨_, rfl, dX5_at_20, rfl⟩)) ⟨Nat.le_refl _, Nat.le_refl _⟩ H2
  · have H3 := H0.2 c1
    refine V.iload_n dX5_at_4 rfl rfl ?_
    refine V.bipush (v := (6)) dX5_at_5 (by decide) ?_
    refine V.icmp_ge (tgt := 19) dX5_at_7 (by decide) (fun c4 => ?_) (fun c4 => ?_)
    · have H5 := H3.1 c4
      refine V.lconst (v := 0) dX5_at_19 (by decide) ?_
      exact V.ret (v := some (.long (0 : Int64))) rfl (Or.inr (Or.inl ⟨_, rfl, dX5_at_20, rfl⟩)) ⟨Nat.le_refl _, Nat.le_refl _⟩ H5
    · have H6 := H3.2 c4
      refine V.aload_n dX5_at_10 rfl rfl ?_
      refine V.getf (v := .ref (p + 1)) dX5_at_11 fl_X5_11 hp.1 (by decide) rfl ?_
      refine V.iload_n dX5_at_14 rfl rfl ?_
      obtain ⟨o7, H8⟩ := H6
      refine V.lald dX5_at_15 hp.2 o7 ?_
      refine V.goto (tgt := 20) dX5_at_16 (by decide) ?_
      exact V.ret (v := some (.long (L (p + 1) a.toNatClampNeg))) rfl (Or.inr (Or.inl ⟨_, rfl, dX5_at_20, rfl⟩)) ⟨Nat.le_refl _, Nat.le_refl _⟩ H8
set_option maxRecDepth 100000 in
set_option maxHeartbeats 4000000 in
theorem wp_X5_set {S : List mjD} {RET : Option Value → mjH → Prop} {p : Nat} (hp : is_Poly S p) {a : Int32} {b : Int64} {I : Nat → Nat → Int32} {L : Nat → Nat → Int64} (H0 : ((a < 0 → RET none (S, I, L)) ∧ (¬ a < 0 → (((6 : Int32) ≤ a → RET none (S, I, L)) ∧ (¬ (6 : Int32) ≤ a → (vp_in a 6) ∧ RET none (S, I, mj_up L (p + 1) a.toNatClampNeg b)))))) : CT mr_X5_set (0, 0) [.ref p, .int a, .long b] (S, I, L) RET := by
  refine CT.of (lo := [(0, .ref p), (1, .int a), (2, .long b)]) (by decide) (fun _ _ => Nat.le_of_ble_eq_true rfl) (fun _ _ => rfl) rfl ?_
  refine V.iload_n dX5_set_0 rfl rfl ?_
  refine V.if_lt (tgt := 17) dX5_set_1 (by decide) (fun c1 => ?_) (fun c1 => ?_)
  · have H2 := H0.1 c1
    exact V.ret rfl (Or.inr (Or.inr (Or.inr ⟨rfl, dX5_set_17, rfl⟩))) ⟨Nat.le_refl _, Nat.le_refl _⟩ H2
  · have H3 := H0.2 c1
    refine V.iload_n dX5_set_4 rfl rfl ?_
    refine V.bipush (v := (6)) dX5_set_5 (by decide) ?_
    refine V.icmp_ge (tgt := 17) dX5_set_7 (by decide) (fun c4 => ?_) (fun c4 => ?_)
    · have H5 := H3.1 c4
      exact V.ret rfl (Or.inr (Or.inr (Or.inr ⟨rfl, dX5_set_17, rfl⟩))) ⟨Nat.le_refl _, Nat.le_refl _⟩ H5
    · have H6 := H3.2 c4
      refine V.aload_n dX5_set_10 rfl rfl ?_
      refine V.getf (v := .ref (p + 1)) dX5_set_11 fl_X5_11 hp.1 (by decide) rfl ?_
      refine V.iload_n dX5_set_14 rfl rfl ?_
      refine V.lload_n dX5_set_15 rfl rfl ?_
      obtain ⟨o7, H8⟩ := H6
      refine V.last dX5_set_16 hp.2 o7 ?_
      exact V.ret rfl (Or.inr (Or.inr (Or.inr ⟨rfl, dX5_set_17, rfl⟩))) ⟨Nat.le_refl _, Nat.le_refl _⟩ H8
def hd_X5_setConstant_9 (S : List mjD) (RET : Option Value → mjH → Prop) (a0 : Nat) (x3 : Int32) (I : Nat → Nat → Int32) (L : Nat → Nat → Int64) : Prop := V mr_X5_setConstant (0, 0) RET 9 [(0, .ref a0), (3, .int x3)] [] (S, I, L) (0, 0)
set_option maxRecDepth 100000 in
set_option maxHeartbeats 4000000 in
theorem it_X5_setConstant_9 {S : List mjD} {RET : Option Value → mjH → Prop} {a0 : Nat} (h0 : is_Poly S a0) {x3 : Int32} {I : Nat → Nat → Int32} {L : Nat → Nat → Int64} (H0 : (((6 : Int32) ≤ x3 → RET none (S, I, L)) ∧ (¬ (6 : Int32) ≤ x3 → (vp_in x3 6) ∧ ∀ y6 : Int32, y6 = x3 + 1 → hd_X5_setConstant_9 S RET a0 y6 I (mj_up L (a0 + 1) x3.toNatClampNeg (0 : Int64))))) : hd_X5_setConstant_9 S RET a0 x3 I L := by
  unfold hd_X5_setConstant_9
  refine V.iload_n dX5_setConstant_9 rfl rfl ?_
  refine V.bipush (v := (6)) dX5_setConstant_10 (by decide) ?_
  refine V.icmp_ge (tgt := 28) dX5_setConstant_12 (by decide) (fun c1 => ?_) (fun c1 => ?_)
  · have H2 := H0.1 c1
    exact V.ret rfl (Or.inr (Or.inr (Or.inr ⟨rfl, dX5_setConstant_28, rfl⟩))) ⟨Nat.le_refl _, Nat.le_refl _⟩ H2
  · have H3 := H0.2 c1
    refine V.aload_n dX5_setConstant_15 rfl rfl ?_
    refine V.getf (v := .ref (a0 + 1)) dX5_setConstant_16 fl_X5_11 h0.1 (by decide) rfl ?_
    refine V.iload_n dX5_setConstant_19 rfl rfl ?_
    refine V.lconst (v := 0) dX5_setConstant_20 (by decide) ?_
    obtain ⟨o4, H5⟩ := H3
    refine V.last dX5_setConstant_21 h0.2 o4 ?_
    obtain ⟨y6, e7⟩ : ∃ y : Int32, y = x3 + 1 := ⟨_, rfl⟩
    have H8 := H5 y6 e7
    refine V.iinc (v := y6) (lo' := [(3, .int y6), (0, .ref a0)]) dX5_setConstant_22 rfl (by rw [e7]; rfl) (by decide) rfl ?_
    refine V.goto (tgt := 9) dX5_setConstant_25 (by decide) ?_
    exact V.los [1, 0] rfl H8
set_option maxRecDepth 100000 in
set_option maxHeartbeats 4000000 in
theorem wp_X5_setConstant {S : List mjD} {RET : Option Value → mjH → Prop} {p : Nat} (hp : is_Poly S p) {a : Int64} {I : Nat → Nat → Int32} {L : Nat → Nat → Int64} (H0 : hd_X5_setConstant_9 S RET p (1 : Int32) I (mj_up L (p + 1) (0 : Int32).toNatClampNeg a)) : CT mr_X5_setConstant (0, 0) [.ref p, .long a] (S, I, L) RET := by
  refine CT.of (lo := [(0, .ref p), (1, .long a)]) (by decide) (fun _ _ => Nat.le_of_ble_eq_true rfl) (fun _ _ => rfl) rfl ?_
  refine V.aload_n dX5_setConstant_0 rfl rfl ?_
  refine V.getf (v := .ref (p + 1)) dX5_setConstant_1 fl_X5_11 hp.1 (by decide) rfl ?_
  refine V.iconst (v := (0)) dX5_setConstant_4 (by decide) ?_
  refine V.lload_n dX5_setConstant_5 rfl rfl ?_
  refine V.last dX5_setConstant_6 hp.2 (mj_lit (by decide)) ?_
  refine V.iconst (v := (1)) dX5_setConstant_7 (by decide) ?_
  refine V.istore_n (lo' := [(3, .int (1 : Int32)), (0, .ref p), (1, .long a)]) dX5_setConstant_8 rfl (by decide) rfl ?_
  exact V.los [1, 0] rfl H0
def hd_X5_copyFrom_2 (S : List mjD) (RET : Option Value → mjH → Prop) (a0 : Nat) (a1 : Nat) (x2 : Int32) (I : Nat → Nat → Int32) (L : Nat → Nat → Int64) : Prop := V mr_X5_copyFrom (0, 0) RET 2 [(0, .ref a0), (1, .ref a1), (2, .int x2)] [] (S, I, L) (0, 0)
set_option maxRecDepth 100000 in
set_option maxHeartbeats 4000000 in
theorem it_X5_copyFrom_2 {S : List mjD} {RET : Option Value → mjH → Prop} {a0 : Nat} (h0 : is_Poly S a0) {a1 : Nat} (h1 : is_Poly S a1) {x2 : Int32} {I : Nat → Nat → Int32} {L : Nat → Nat → Int64} (H0 : (((6 : Int32) ≤ x2 → RET none (S, I, L)) ∧ (¬ (6 : Int32) ≤ x2 → (vp_in x2 6) ∧ (vp_in x2 6) ∧ ∀ y8 : Int32, y8 = x2 + 1 → hd_X5_copyFrom_2 S RET a0 a1 y8 I (mj_up L (a0 + 1) x2.toNatClampNeg (L (a1 + 1) x2.toNatClampNeg))))) : hd_X5_copyFrom_2 S RET a0 a1 x2 I L := by
  unfold hd_X5_copyFrom_2
  refine V.iload_n dX5_copyFrom_2 rfl rfl ?_
  refine V.bipush (v := (6)) dX5_copyFrom_3 (by decide) ?_
  refine V.icmp_ge (tgt := 26) dX5_copyFrom_5 (by decide) (fun c1 => ?_) (fun c1 => ?_)
  · have H2 := H0.1 c1
    exact V.ret rfl (Or.inr (Or.inr (Or.inr ⟨rfl, dX5_copyFrom_26, rfl⟩))) ⟨Nat.le_refl _, Nat.le_refl _⟩ H2
  · have H3 := H0.2 c1
    refine V.aload_n dX5_copyFrom_8 rfl rfl ?_
    refine V.getf (v := .ref (a0 + 1)) dX5_copyFrom_9 fl_X5_11 h0.1 (by decide) rfl ?_
    refine V.iload_n dX5_copyFrom_12 rfl rfl ?_
    refine V.aload_n dX5_copyFrom_13 rfl rfl ?_
    refine V.getf (v := .ref (a1 + 1)) dX5_copyFrom_14 fl_X5_11 h1.1 (by decide) rfl ?_
    refine V.iload_n dX5_copyFrom_17 rfl rfl ?_
    obtain ⟨o4, H5⟩ := H3
    refine V.lald dX5_copyFrom_18 h1.2 o4 ?_
    obtain ⟨o6, H7⟩ := H5
    refine V.last dX5_copyFrom_19 h0.2 o6 ?_
    obtain ⟨y8, e9⟩ : ∃ y : Int32, y = x2 + 1 := ⟨_, rfl⟩
    have H10 := H7 y8 e9
    refine V.iinc (v := y8) (lo' := [(2, .int y8), (0, .ref a0), (1, .ref a1)]) dX5_copyFrom_20 rfl (by rw [e9]; rfl) (by decide) rfl ?_
    refine V.goto (tgt := 2) dX5_copyFrom_23 (by decide) ?_
    exact V.los [1, 2, 0] rfl H10
set_option maxRecDepth 100000 in
set_option maxHeartbeats 4000000 in
theorem wp_X5_copyFrom {S : List mjD} {RET : Option Value → mjH → Prop} {p : Nat} (hp : is_Poly S p) {q : Nat} (hq : is_Poly S q) {I : Nat → Nat → Int32} {L : Nat → Nat → Int64} (H0 : hd_X5_copyFrom_2 S RET p q (0 : Int32) I L) : CT mr_X5_copyFrom (0, 0) [.ref p, .ref q] (S, I, L) RET := by
  refine CT.of (lo := [(0, .ref p), (1, .ref q)]) (by decide) (fun _ _ => Nat.le_of_ble_eq_true rfl) (fun _ _ => rfl) rfl ?_
  refine V.iconst (v := (0)) dX5_copyFrom_0 (by decide) ?_
  refine V.istore_n (lo' := [(2, .int (0 : Int32)), (0, .ref p), (1, .ref q)]) dX5_copyFrom_1 rfl (by decide) rfl ?_
  exact V.los [1, 2, 0] rfl H0
def hd_X5_degree_2 (S : List mjD) (RET : Option Value → mjH → Prop) (a0 : Nat) (x1 : Int32) (I : Nat → Nat → Int32) (L : Nat → Nat → Int64) : Prop := V mr_X5_degree (0, 0) RET 2 [(0, .ref a0), (1, .int x1)] [] (S, I, L) (0, 0)
set_option maxRecDepth 100000 in
set_option maxHeartbeats 4000000 in
theorem it_X5_degree_2 {S : List mjD} {RET : Option Value → mjH → Prop} {a0 : Nat} (h0 : is_Poly S a0) {x1 : Int32} {I : Nat → Nat → Int32} {L : Nat → Nat → Int64} (H0 : ((x1 < 0 → RET (some (.int (-1 : Int32))) (S, I, L)) ∧ (¬ x1 < 0 → (vp_in x1 6) ∧ (((L (a0 + 1) x1.toNatClampNeg) = (0 : Int64) → ∀ y8 : Int32, y8 = x1 + (-1) → hd_X5_degree_2 S RET a0 y8 I L) ∧ (¬ (L (a0 + 1) x1.toNatClampNeg) = (0 : Int64) → RET (some (.int x1)) (S, I, L)))))) : hd_X5_degree_2 S RET a0 x1 I L := by
  unfold hd_X5_degree_2
  refine V.iload_n dX5_degree_2 rfl rfl ?_
  refine V.if_lt (tgt := 25) dX5_degree_3 (by decide) (fun c1 => ?_) (fun c1 => ?_)
  · have H2 := H0.1 c1
    refine V.iconst (v := (-1)) dX5_degree_25 (by decide) ?_
    exact V.ret (v := some (.int (-1 : Int32))) rfl (Or.inl ⟨_, rfl, dX5_degree_26, _, rfl, rfl⟩) ⟨Nat.le_refl _, Nat.le_refl _⟩ H2
  · have H3 := H0.2 c1
    refine V.aload_n dX5_degree_6 rfl rfl ?_
    refine V.getf (v := .ref (a0 + 1)) dX5_degree_7 fl_X5_11 h0.1 (by decide) rfl ?_
    refine V.iload_n dX5_degree_10 rfl rfl ?_
    obtain ⟨o4, H5⟩ := H3
    refine V.lald dX5_degree_11 h0.2 o4 ?_
    refine V.lconst (v := 0) dX5_degree_12 (by decide) ?_
    refine V.lc_eq (tgt := 19) dX5_degree_13 dX5_degree_14 (by decide) (fun c6 => ?_) (fun c6 => ?_)
    · have H7 := H5.1 c6
      obtain ⟨y8, e9⟩ : ∃ y : Int32, y = x1 + (-1) := ⟨_, rfl⟩
      have H10 := H7 y8 e9
      refine V.iinc (v := y8) (lo' := [(1, .int y8), (0, .ref a0)]) dX5_degree_19 rfl (by rw [e9]; rfl) (by decide) rfl ?_
      refine V.goto (tgt := 2) dX5_degree_22 (by decide) ?_
      exact V.los [1, 0] rfl H10
    · have H11 := H5.2 c6
      refine V.iload_n dX5_degree_17 rfl rfl ?_
      exact V.ret (v := some (.int x1)) rfl (Or.inl ⟨_, rfl, dX5_degree_18, _, rfl, rfl⟩) ⟨Nat.le_refl _, Nat.le_refl _⟩ H11
set_option maxRecDepth 100000 in
set_option maxHeartbeats 4000000 in
theorem wp_X5_degree {S : List mjD} {RET : Option Value → mjH → Prop} {p : Nat} (hp : is_Poly S p) {I : Nat → Nat → Int32} {L : Nat → Nat → Int64} (H0 : hd_X5_degree_2 S RET p (5 : Int32) I L) : CT mr_X5_degree (0, 0) [.ref p] (S, I, L) RET := by
  refine CT.of (lo := [(0, .ref p)]) (by decide) (fun _ _ => Nat.le_of_ble_eq_true rfl) (fun _ _ => rfl) rfl ?_
  refine V.iconst (v := (5)) dX5_degree_0 (by decide) ?_
  refine V.istore_n (lo' := [(1, .int (5 : Int32)), (0, .ref p)]) dX5_degree_1 rfl (by decide) rfl ?_
  exact V.los [1, 0] rfl H0
def hd_X5_isInRange_2 (S : List mjD) (RET : Option Value → mjH → Prop) (a0 : Nat) (x1 : Int32) (I : Nat → Nat → Int32) (L : Nat → Nat → Int64) : Prop := V mr_X5_isInRange (0, 0) RET 2 [(0, .ref a0), (1, .int x1)] [] (S, I, L) (0, 0)
set_option maxRecDepth 100000 in
set_option maxHeartbeats 4000000 in
theorem it_X5_isInRange_2 {S : List mjD} {RET : Option Value → mjH → Prop} {a0 : Nat} (h0 : is_Poly S a0) {x1 : Int32} {I : Nat → Nat → Int32} {L : Nat → Nat → Int64} (H0 : (((6 : Int32) ≤ x1 → RET (some (.int (1 : Int32))) (S, I, L)) ∧ (¬ (6 : Int32) ≤ x1 → (vp_in x1 6) ∧ (((L (a0 + 1) x1.toNatClampNeg) < (-999 : Int64) → RET (some (.int (0 : Int32))) (S, I, L)) ∧ (¬ (L (a0 + 1) x1.toNatClampNeg) < (-999 : Int64) → (vp_in x1 6) ∧ (((L (a0 + 1) x1.toNatClampNeg) ≤ (999 : Int64) → ∀ y13 : Int32, y13 = x1 + 1 → hd_X5_isInRange_2 S RET a0 y13 I L) ∧ (¬ (L (a0 + 1) x1.toNatClampNeg) ≤ (999 : Int64) → RET (some (.int (0 : Int32))) (S, I, L)))))))) : hd_X5_isInRange_2 S RET a0 x1 I L := by
  unfold hd_X5_isInRange_2
  refine V.iload_n dX5_isInRange_2 rfl rfl ?_
  refine V.bipush (v := (6)) dX5_isInRange_3 (by decide) ?_
  refine V.icmp_ge (tgt := 42) dX5_isInRange_5 (by decide) (fun c1 => ?_) (fun c1 => ?_)
  · have H2 := H0.1 c1
    refine V.iconst (v := (1)) dX5_isInRange_42 (by decide) ?_
    exact V.ret (v := some (.int (1 : Int32))) rfl (Or.inl ⟨_, rfl, dX5_isInRange_43, _, rfl, (by decide)⟩) ⟨Nat.le_refl _, Nat.le_refl _⟩ H2
  · have H3 := H0.2 c1
    refine V.aload_n dX5_isInRange_8 rfl rfl ?_
    refine V.getf (v := .ref (a0 + 1)) dX5_isInRange_9 fl_X5_11 h0.1 (by decide) rfl ?_
    refine V.iload_n dX5_isInRange_12 rfl rfl ?_
    obtain ⟨o4, H5⟩ := H3
    refine V.lald dX5_isInRange_13 h0.2 o4 ?_
    refine V.ldc2 kc_X5_19 dX5_isInRange_14 ?_
    refine V.lc_lt (tgt := 34) dX5_isInRange_17 dX5_isInRange_18 (by decide) (fun c6 => ?_) (fun c6 => ?_)
    · have H7 := H5.1 c6
      refine V.iconst (v := (0)) dX5_isInRange_34 (by decide) ?_
      exact V.ret (v := some (.int (0 : Int32))) rfl (Or.inl ⟨_, rfl, dX5_isInRange_35, _, rfl, (by decide)⟩) ⟨Nat.le_refl _, Nat.le_refl _⟩ H7
    · have H8 := H5.2 c6
      refine V.aload_n dX5_isInRange_21 rfl rfl ?_
      refine V.getf (v := .ref (a0 + 1)) dX5_isInRange_22 fl_X5_11 h0.1 (by decide) rfl ?_
      refine V.iload_n dX5_isInRange_25 rfl rfl ?_
      obtain ⟨o9, H10⟩ := H8
      refine V.lald dX5_isInRange_26 h0.2 o9 ?_
      refine V.ldc2 kc_X5_21 dX5_isInRange_27 ?_
      refine V.lc_le (tgt := 36) dX5_isInRange_30 dX5_isInRange_31 (by decide) (fun c11 => ?_) (fun c11 => ?_)
      · have H12 := H10.1 c11
        obtain ⟨y13, e14⟩ : ∃ y : Int32, y = x1 + 1 := ⟨_, rfl⟩
        have H15 := H12 y13 e14
        refine V.iinc (v := y13) (lo' := [(1, .int y13), (0, .ref a0)]) dX5_isInRange_36 rfl (by rw [e14]; rfl) (by decide) rfl ?_
        refine V.goto (tgt := 2) dX5_isInRange_39 (by decide) ?_
        exact V.los [1, 0] rfl H15
      · have H16 := H10.2 c11
        refine V.iconst (v := (0)) dX5_isInRange_34 (by decide) ?_
        exact V.ret (v := some (.int (0 : Int32))) rfl (Or.inl ⟨_, rfl, dX5_isInRange_35, _, rfl, (by decide)⟩) ⟨Nat.le_refl _, Nat.le_refl _⟩ H16
set_option maxRecDepth 100000 in
set_option maxHeartbeats 4000000 in
theorem wp_X5_isInRange {S : List mjD} {RET : Option Value → mjH → Prop} {p : Nat} (hp : is_Poly S p) {I : Nat → Nat → Int32} {L : Nat → Nat → Int64} (H0 : hd_X5_isInRange_2 S RET p (0 : Int32) I L) : CT mr_X5_isInRange (0, 0) [.ref p] (S, I, L) RET := by
  refine CT.of (lo := [(0, .ref p)]) (by decide) (fun _ _ => Nat.le_of_ble_eq_true rfl) (fun _ _ => rfl) rfl ?_
  refine V.iconst (v := (0)) dX5_isInRange_0 (by decide) ?_
  refine V.istore_n (lo' := [(1, .int (0 : Int32)), (0, .ref p)]) dX5_isInRange_1 rfl (by decide) rfl ?_
  exact V.los [1, 0] rfl H0
def hd_X5_divideBy_2 (S : List mjD) (RET : Option Value → mjH → Prop) (a0 : Nat) (x1 : Int64) (x3 : Int32) (I : Nat → Nat → Int32) (L : Nat → Nat → Int64) : Prop := V mr_X5_divideBy (0, 0) RET 2 [(0, .ref a0), (1, .long x1), (3, .int x3)] [] (S, I, L) (0, 0)
set_option maxRecDepth 100000 in
set_option maxHeartbeats 4000000 in
theorem it_X5_divideBy_2 {S : List mjD} {RET : Option Value → mjH → Prop} {a0 : Nat} (h0 : is_Poly S a0) {x1 : Int64} {x3 : Int32} {I : Nat → Nat → Int32} {L : Nat → Nat → Int64} (H0 : (((6 : Int32) ≤ x3 → RET none (S, I, L)) ∧ (¬ (6 : Int32) ≤ x3 → ((x1 = (0 : Int64) → RET none (S, I, L)) ∧ (¬ x1 = (0 : Int64) → (vp_in x3 6) ∧ (¬ x1 = 0) ∧ (vp_in x3 6) ∧ ∀ y13 : Int32, y13 = x3 + 1 → hd_X5_divideBy_2 S RET a0 x1 y13 I (mj_up L (a0 + 1) x3.toNatClampNeg ((L (a0 + 1) x3.toNatClampNeg) / x1))))))) : hd_X5_divideBy_2 S RET a0 x1 x3 I L := by
  unfold hd_X5_divideBy_2
  refine V.iload_n dX5_divideBy_2 rfl rfl ?_
  refine V.bipush (v := (6)) dX5_divideBy_3 (by decide) ?_
  refine V.icmp_ge (tgt := 30) dX5_divideBy_5 (by decide) (fun c1 => ?_) (fun c1 => ?_)
  · have H2 := H0.1 c1
    exact V.ret rfl (Or.inr (Or.inr (Or.inr ⟨rfl, dX5_divideBy_30, rfl⟩))) ⟨Nat.le_refl _, Nat.le_refl _⟩ H2
  · have H3 := H0.2 c1
    refine V.lload_n dX5_divideBy_8 rfl rfl ?_
    refine V.lconst (v := 0) dX5_divideBy_9 (by decide) ?_
    refine V.lc_eq (tgt := 30) dX5_divideBy_10 dX5_divideBy_11 (by decide) (fun c4 => ?_) (fun c4 => ?_)
    · have H5 := H3.1 c4
      exact V.ret rfl (Or.inr (Or.inr (Or.inr ⟨rfl, dX5_divideBy_30, rfl⟩))) ⟨Nat.le_refl _, Nat.le_refl _⟩ H5
    · have H6 := H3.2 c4
      refine V.aload_n dX5_divideBy_14 rfl rfl ?_
      refine V.getf (v := .ref (a0 + 1)) dX5_divideBy_15 fl_X5_11 h0.1 (by decide) rfl ?_
      refine V.iload_n dX5_divideBy_18 rfl rfl ?_
      refine V.dup2 dX5_divideBy_19 rfl rfl ?_
      obtain ⟨o7, H8⟩ := H6
      refine V.lald dX5_divideBy_20 h0.2 o7 ?_
      refine V.lload_n dX5_divideBy_21 rfl rfl ?_
      obtain ⟨o9, H10⟩ := H8
      refine V.ldiv dX5_divideBy_22 o9 ?_
      obtain ⟨o11, H12⟩ := H10
      refine V.last dX5_divideBy_23 h0.2 o11 ?_
      obtain ⟨y13, e14⟩ : ∃ y : Int32, y = x3 + 1 := ⟨_, rfl⟩
      have H15 := H12 y13 e14
      refine V.iinc (v := y13) (lo' := [(3, .int y13), (0, .ref a0), (1, .long x1)]) dX5_divideBy_24 rfl (by rw [e14]; rfl) (by decide) rfl ?_
      refine V.goto (tgt := 2) dX5_divideBy_27 (by decide) ?_
      exact V.los [1, 2, 0] rfl H15
set_option maxRecDepth 100000 in
set_option maxHeartbeats 4000000 in
theorem wp_X5_divideBy {S : List mjD} {RET : Option Value → mjH → Prop} {p : Nat} (hp : is_Poly S p) {a : Int64} {I : Nat → Nat → Int32} {L : Nat → Nat → Int64} (H0 : hd_X5_divideBy_2 S RET p a (0 : Int32) I L) : CT mr_X5_divideBy (0, 0) [.ref p, .long a] (S, I, L) RET := by
  refine CT.of (lo := [(0, .ref p), (1, .long a)]) (by decide) (fun _ _ => Nat.le_of_ble_eq_true rfl) (fun _ _ => rfl) rfl ?_
  refine V.iconst (v := (0)) dX5_divideBy_0 (by decide) ?_
  refine V.istore_n (lo' := [(3, .int (0 : Int32)), (0, .ref p), (1, .long a)]) dX5_divideBy_1 rfl (by decide) rfl ?_
  exact V.los [1, 2, 0] rfl H0
def hd_X5_valueAt_5 (S : List mjD) (RET : Option Value → mjH → Prop) (a0 : Nat) (x1 : Int32) (x2 : Int64) (x4 : Int32) (I : Nat → Nat → Int32) (L : Nat → Nat → Int64) : Prop := V mr_X5_valueAt (0, 0) RET 5 [(0, .ref a0), (1, .int x1), (2, .long x2), (4, .int x4)] [] (S, I, L) (0, 0)
set_option maxRecDepth 100000 in
set_option maxHeartbeats 4000000 in
theorem it_X5_valueAt_5 {S : List mjD} {RET : Option Value → mjH → Prop} {a0 : Nat} (h0 : is_Poly S a0) {x1 : Int32} {x2 : Int64} {x4 : Int32} {I : Nat → Nat → Int32} {L : Nat → Nat → Int64} (H0 : ((x4 < 0 → RET (some (.long x2)) (S, I, L)) ∧ (¬ x4 < 0 → (vp_in x4 6) ∧ ∀ y6 : Int64, y6 = ((x2 * x1.toInt64) + (L (a0 + 1) x4.toNatClampNeg)) → ∀ y9 : Int32, y9 = x4 + (-1) → hd_X5_valueAt_5 S RET a0 x1 y6 y9 I L))) : hd_X5_valueAt_5 S RET a0 x1 x2 x4 I L := by
  unfold hd_X5_valueAt_5
  refine V.iload dX5_valueAt_5 rfl ?_
  refine V.if_lt (tgt := 29) dX5_valueAt_7 (by decide) (fun c1 => ?_) (fun c1 => ?_)
  · have H2 := H0.1 c1
    refine V.lload_n dX5_valueAt_29 rfl rfl ?_
    exact V.ret (v := some (.long x2)) rfl (Or.inr (Or.inl ⟨_, rfl, dX5_valueAt_30, rfl⟩)) ⟨Nat.le_refl _, Nat.le_refl _⟩ H2
  · have H3 := H0.2 c1
    refine V.lload_n dX5_valueAt_10 rfl rfl ?_
    refine V.iload_n dX5_valueAt_11 rfl rfl ?_
    refine V.i2l dX5_valueAt_12 ?_
    refine V.lmul dX5_valueAt_13 ?_
    refine V.aload_n dX5_valueAt_14 rfl rfl ?_
    refine V.getf (v := .ref (a0 + 1)) dX5_valueAt_15 fl_X5_11 h0.1 (by decide) rfl ?_
    refine V.iload dX5_valueAt_18 rfl ?_
    obtain ⟨o4, H5⟩ := H3
    refine V.lald dX5_valueAt_20 h0.2 o4 ?_
    refine V.ladd dX5_valueAt_21 ?_
    refine V.topl (fun y6 e7 => ?_)
    have H8 := H5 y6 e7
    refine V.lstore_n (lo' := [(2, .long y6), (0, .ref a0), (1, .int x1), (4, .int x4)]) dX5_valueAt_22 rfl (by decide) rfl ?_
    obtain ⟨y9, e10⟩ : ∃ y : Int32, y = x4 + (-1) := ⟨_, rfl⟩
    have H11 := H8 y9 e10
    refine V.iinc (v := y9) (lo' := [(4, .int y9), (2, .long y6), (0, .ref a0), (1, .int x1)]) dX5_valueAt_23 rfl (by rw [e10]; rfl) (by decide) rfl ?_
    refine V.goto (tgt := 5) dX5_valueAt_26 (by decide) ?_
    exact V.los [2, 3, 1, 0] rfl H11
set_option maxRecDepth 100000 in
set_option maxHeartbeats 4000000 in
theorem wp_X5_valueAt {S : List mjD} {RET : Option Value → mjH → Prop} {p : Nat} (hp : is_Poly S p) {a : Int32} {I : Nat → Nat → Int32} {L : Nat → Nat → Int64} (H0 : hd_X5_valueAt_5 S RET p a (0 : Int64) (5 : Int32) I L) : CT mr_X5_valueAt (0, 0) [.ref p, .int a] (S, I, L) RET := by
  refine CT.of (lo := [(0, .ref p), (1, .int a)]) (by decide) (fun _ _ => Nat.le_of_ble_eq_true rfl) (fun _ _ => rfl) rfl ?_
  refine V.lconst (v := 0) dX5_valueAt_0 (by decide) ?_
  refine V.lstore_n (lo' := [(2, .long (0 : Int64)), (0, .ref p), (1, .int a)]) dX5_valueAt_1 rfl (by decide) rfl ?_
  refine V.iconst (v := (5)) dX5_valueAt_2 (by decide) ?_
  refine V.istore (lo' := [(4, .int (5 : Int32)), (2, .long (0 : Int64)), (0, .ref p), (1, .int a)]) dX5_valueAt_3 (by decide) rfl ?_
  exact V.los [2, 3, 1, 0] rfl H0
def hd_X5_sumFrom_2 (S : List mjD) (RET : Option Value → mjH → Prop) (a0 : Nat) (a1 : Nat) (a2 : Nat) (x3 : Int32) (I : Nat → Nat → Int32) (L : Nat → Nat → Int64) : Prop := V mr_X5_sumFrom (0, 0) RET 2 [(0, .ref a0), (1, .ref a1), (2, .ref a2), (3, .int x3)] [] (S, I, L) (0, 0)
set_option maxRecDepth 100000 in
set_option maxHeartbeats 4000000 in
theorem it_X5_sumFrom_2 {S : List mjD} {RET : Option Value → mjH → Prop} {a0 : Nat} (h0 : is_Poly S a0) {a1 : Nat} (h1 : is_Poly S a1) {a2 : Nat} (h2 : is_Poly S a2) {x3 : Int32} {I : Nat → Nat → Int32} {L : Nat → Nat → Int64} (H0 : (((6 : Int32) ≤ x3 → RET none (S, I, L)) ∧ (¬ (6 : Int32) ≤ x3 → (vp_in x3 6) ∧ (vp_in x3 6) ∧ (vp_in x3 6) ∧ ∀ y10 : Int32, y10 = x3 + 1 → hd_X5_sumFrom_2 S RET a0 a1 a2 y10 I (mj_up L (a0 + 1) x3.toNatClampNeg ((L (a1 + 1) x3.toNatClampNeg) + (L (a2 + 1) x3.toNatClampNeg)))))) : hd_X5_sumFrom_2 S RET a0 a1 a2 x3 I L := by
  unfold hd_X5_sumFrom_2
  refine V.iload_n dX5_sumFrom_2 rfl rfl ?_
  refine V.bipush (v := (6)) dX5_sumFrom_3 (by decide) ?_
  refine V.icmp_ge (tgt := 33) dX5_sumFrom_5 (by decide) (fun c1 => ?_) (fun c1 => ?_)
  · have H2 := H0.1 c1
    exact V.ret rfl (Or.inr (Or.inr (Or.inr ⟨rfl, dX5_sumFrom_33, rfl⟩))) ⟨Nat.le_refl _, Nat.le_refl _⟩ H2
  · have H3 := H0.2 c1
    refine V.aload_n dX5_sumFrom_8 rfl rfl ?_
    refine V.getf (v := .ref (a0 + 1)) dX5_sumFrom_9 fl_X5_11 h0.1 (by decide) rfl ?_
    refine V.iload_n dX5_sumFrom_12 rfl rfl ?_
    refine V.aload_n dX5_sumFrom_13 rfl rfl ?_
    refine V.getf (v := .ref (a1 + 1)) dX5_sumFrom_14 fl_X5_11 h1.1 (by decide) rfl ?_
    refine V.iload_n dX5_sumFrom_17 rfl rfl ?_
    obtain ⟨o4, H5⟩ := H3
    refine V.lald dX5_sumFrom_18 h1.2 o4 ?_
    refine V.aload_n dX5_sumFrom_19 rfl rfl ?_
    refine V.getf (v := .ref (a2 + 1)) dX5_sumFrom_20 fl_X5_11 h2.1 (by decide) rfl ?_
    refine V.iload_n dX5_sumFrom_23 rfl rfl ?_
    obtain ⟨o6, H7⟩ := H5
    refine V.lald dX5_sumFrom_24 h2.2 o6 ?_
    refine V.ladd dX5_sumFrom_25 ?_
    obtain ⟨o8, H9⟩ := H7
    refine V.last dX5_sumFrom_26 h0.2 o8 ?_
    obtain ⟨y10, e11⟩ : ∃ y : Int32, y = x3 + 1 := ⟨_, rfl⟩
    have H12 := H9 y10 e11
    refine V.iinc (v := y10) (lo' := [(3, .int y10), (0, .ref a0), (1, .ref a1), (2, .ref a2)]) dX5_sumFrom_27 rfl (by rw [e11]; rfl) (by decide) rfl ?_
    refine V.goto (tgt := 2) dX5_sumFrom_30 (by decide) ?_
    exact V.los [1, 2, 3, 0] rfl H12
set_option maxRecDepth 100000 in
set_option maxHeartbeats 4000000 in
theorem wp_X5_sumFrom {S : List mjD} {RET : Option Value → mjH → Prop} {p : Nat} (hp : is_Poly S p) {q : Nat} (hq : is_Poly S q) {r : Nat} (hr : is_Poly S r) {I : Nat → Nat → Int32} {L : Nat → Nat → Int64} (H0 : hd_X5_sumFrom_2 S RET p q r (0 : Int32) I L) : CT mr_X5_sumFrom (0, 0) [.ref p, .ref q, .ref r] (S, I, L) RET := by
  refine CT.of (lo := [(0, .ref p), (1, .ref q), (2, .ref r)]) (by decide) (fun _ _ => Nat.le_of_ble_eq_true rfl) (fun _ _ => rfl) rfl ?_
  refine V.iconst (v := (0)) dX5_sumFrom_0 (by decide) ?_
  refine V.istore_n (lo' := [(3, .int (0 : Int32)), (0, .ref p), (1, .ref q), (2, .ref r)]) dX5_sumFrom_1 rfl (by decide) rfl ?_
  exact V.los [1, 2, 3, 0] rfl H0
def hd_X5_mirrorFrom_2 (S : List mjD) (RET : Option Value → mjH → Prop) (a0 : Nat) (a1 : Nat) (x2 : Int32) (I : Nat → Nat → Int32) (L : Nat → Nat → Int64) : Prop := V mr_X5_mirrorFrom (0, 0) RET 2 [(0, .ref a0), (1, .ref a1), (2, .int x2)] [] (S, I, L) (0, 0)
set_option maxRecDepth 100000 in
set_option maxHeartbeats 4000000 in
theorem it_X5_mirrorFrom_2 {S : List mjD} {RET : Option Value → mjH → Prop} {a0 : Nat} (h0 : is_Poly S a0) {a1 : Nat} (h1 : is_Poly S a1) {x2 : Int32} {I : Nat → Nat → Int32} {L : Nat → Nat → Int64} (H0 : (((6 : Int32) ≤ x2 → RET none (S, I, L)) ∧ (¬ (6 : Int32) ≤ x2 → ((¬ (x2 - x2 / (2 : Int32) * (2 : Int32)) = 0 → (vp_in x2 6) ∧ (vp_in x2 6) ∧ ∀ y10 : Int32, y10 = x2 + 1 → hd_X5_mirrorFrom_2 S RET a0 a1 y10 I (mj_up L (a0 + 1) x2.toNatClampNeg (-(L (a1 + 1) x2.toNatClampNeg)))) ∧ ((x2 - x2 / (2 : Int32) * (2 : Int32)) = 0 → (vp_in x2 6) ∧ (vp_in x2 6) ∧ ∀ y18 : Int32, y18 = x2 + 1 → hd_X5_mirrorFrom_2 S RET a0 a1 y18 I (mj_up L (a0 + 1) x2.toNatClampNeg (L (a1 + 1) x2.toNatClampNeg))))))) : hd_X5_mirrorFrom_2 S RET a0 a1 x2 I L := by
  unfold hd_X5_mirrorFrom_2
  refine V.iload_n dX5_mirrorFrom_2 rfl rfl ?_
  refine V.bipush (v := (6)) dX5_mirrorFrom_3 (by decide) ?_
  refine V.icmp_ge (tgt := 42) dX5_mirrorFrom_5 (by decide) (fun c1 => ?_) (fun c1 => ?_)
  · have H2 := H0.1 c1
    exact V.ret rfl (Or.inr (Or.inr (Or.inr ⟨rfl, dX5_mirrorFrom_42, rfl⟩))) ⟨Nat.le_refl _, Nat.le_refl _⟩ H2
  · have H3 := H0.2 c1
    refine V.aload_n dX5_mirrorFrom_8 rfl rfl ?_
    refine V.getf (v := .ref (a0 + 1)) dX5_mirrorFrom_9 fl_X5_11 h0.1 (by decide) rfl ?_
    refine V.iload_n dX5_mirrorFrom_12 rfl rfl ?_
    refine V.iload_n dX5_mirrorFrom_13 rfl rfl ?_
    refine V.iconst (v := (2)) dX5_mirrorFrom_14 (by decide) ?_
    refine V.irem dX5_mirrorFrom_15 (by decide) ?_
    refine V.if_ne (tgt := 28) dX5_mirrorFrom_16 (by decide) (fun c4 => ?_) (fun c4 => ?_)
    · have H5 := H3.1 c4
      refine V.aload_n dX5_mirrorFrom_28 rfl rfl ?_
      refine V.getf (v := .ref (a1 + 1)) dX5_mirrorFrom_29 fl_X5_11 h1.1 (by decide) rfl ?_
      refine V.iload_n dX5_mirrorFrom_32 rfl rfl ?_
      obtain ⟨o6, H7⟩ := H5
      refine V.lald dX5_mirrorFrom_33 h1.2 o6 ?_
      refine V.lneg dX5_mirrorFrom_34 ?_
      obtain ⟨o8, H9⟩ := H7
      refine V.last dX5_mirrorFrom_35 h0.2 o8 ?_
      obtain ⟨y10, e11⟩ : ∃ y : Int32, y = x2 + 1 := ⟨_, rfl⟩
      have H12 := H9 y10 e11
      refine V.iinc (v := y10) (lo' := [(2, .int y10), (0, .ref a0), (1, .ref a1)]) dX5_mirrorFrom_36 rfl (by rw [e11]; rfl) (by decide) rfl ?_
      refine V.goto (tgt := 2) dX5_mirrorFrom_39 (by decide) ?_
      exact V.los [1, 2, 0] rfl H12
    · have H13 := H3.2 c4
      refine V.aload_n dX5_mirrorFrom_19 rfl rfl ?_
      refine V.getf (v := .ref (a1 + 1)) dX5_mirrorFrom_20 fl_X5_11 h1.1 (by decide) rfl ?_
      refine V.iload_n dX5_mirrorFrom_23 rfl rfl ?_
      obtain ⟨o14, H15⟩ := H13
      refine V.lald dX5_mirrorFrom_24 h1.2 o14 ?_
      refine V.goto (tgt := 35) dX5_mirrorFrom_25 (by decide) ?_
      obtain ⟨o16, H17⟩ := H15
      refine V.last dX5_mirrorFrom_35 h0.2 o16 ?_
      obtain ⟨y18, e19⟩ : ∃ y : Int32, y = x2 + 1 := ⟨_, rfl⟩
      have H20 := H17 y18 e19
      refine V.iinc (v := y18) (lo' := [(2, .int y18), (0, .ref a0), (1, .ref a1)]) dX5_mirrorFrom_36 rfl (by rw [e19]; rfl) (by decide) rfl ?_
      refine V.goto (tgt := 2) dX5_mirrorFrom_39 (by decide) ?_
      exact V.los [1, 2, 0] rfl H20
set_option maxRecDepth 100000 in
set_option maxHeartbeats 4000000 in
theorem wp_X5_mirrorFrom {S : List mjD} {RET : Option Value → mjH → Prop} {p : Nat} (hp : is_Poly S p) {q : Nat} (hq : is_Poly S q) {I : Nat → Nat → Int32} {L : Nat → Nat → Int64} (H0 : hd_X5_mirrorFrom_2 S RET p q (0 : Int32) I L) : CT mr_X5_mirrorFrom (0, 0) [.ref p, .ref q] (S, I, L) RET := by
  refine CT.of (lo := [(0, .ref p), (1, .ref q)]) (by decide) (fun _ _ => Nat.le_of_ble_eq_true rfl) (fun _ _ => rfl) rfl ?_
  refine V.iconst (v := (0)) dX5_mirrorFrom_0 (by decide) ?_
  refine V.istore_n (lo' := [(2, .int (0 : Int32)), (0, .ref p), (1, .ref q)]) dX5_mirrorFrom_1 rfl (by decide) rfl ?_
  exact V.los [1, 2, 0] rfl H0
def hd_X5_productAt_5 (S : List mjD) (RET : Option Value → mjH → Prop) (a0 : Nat) (a1 : Nat) (x2 : Int32) (x3 : Int64) (x5 : Int32) (I : Nat → Nat → Int32) (L : Nat → Nat → Int64) : Prop := V mr_X5_productAt (0, 0) RET 5 [(0, .ref a0), (1, .ref a1), (2, .int x2), (3, .long x3), (5, .int x5)] [] (S, I, L) (0, 0)
set_option maxRecDepth 100000 in
set_option maxHeartbeats 4000000 in
theorem it_X5_productAt_5 {S : List mjD} {RET : Option Value → mjH → Prop} {a0 : Nat} (h0 : is_Poly S a0) {a1 : Nat} (h1 : is_Poly S a1) {x2 : Int32} {x3 : Int64} {x5 : Int32} {I : Nat → Nat → Int32} {L : Nat → Nat → Int64} (H0 : (((6 : Int32) ≤ x5 → RET (some (.long x3)) (S, I, L)) ∧ (¬ (6 : Int32) ≤ x5 → ∀ y4 : Int32, y4 = (x2 - x5) → ((y4 < 0 → ∀ y9 : Int32, y9 = x5 + 1 → hd_X5_productAt_5 S RET a0 a1 x2 x3 y9 I L) ∧ (¬ y4 < 0 → (((6 : Int32) ≤ y4 → ∀ y15 : Int32, y15 = x5 + 1 → hd_X5_productAt_5 S RET a0 a1 x2 x3 y15 I L) ∧ (¬ (6 : Int32) ≤ y4 → (vp_in x5 6) ∧ (vp_in y4 6) ∧ ∀ y23 : Int64, y23 = (x3 + ((L (a0 + 1) x5.toNatClampNeg) * (L (a1 + 1) y4.toNatClampNeg))) → ∀ y26 : Int32, y26 = x5 + 1 → hd_X5_productAt_5 S RET a0 a1 x2 y23 y26 I L))))))) : hd_X5_productAt_5 S RET a0 a1 x2 x3 x5 I L := by
  unfold hd_X5_productAt_5
  refine V.iload dX5_productAt_5 rfl ?_
  refine V.bipush (v := (6)) dX5_productAt_7 (by decide) ?_
  refine V.icmp_ge (tgt := 54) dX5_productAt_9 (by decide) (fun c1 => ?_) (fun c1 => ?_)
  · have H2 := H0.1 c1
    refine V.lload_n dX5_productAt_54 rfl rfl ?_
    exact V.ret (v := some (.long x3)) rfl (Or.inr (Or.inl ⟨_, rfl, dX5_productAt_55, rfl⟩)) ⟨Nat.le_refl _, Nat.le_refl _⟩ H2
  · have H3 := H0.2 c1
    refine V.iload_n dX5_productAt_12 rfl rfl ?_
    refine V.iload dX5_productAt_13 rfl ?_
    refine V.isub dX5_productAt_15 ?_
    refine V.topi (fun y4 e5 => ?_)
    have H6 := H3 y4 e5
    refine V.istore (lo' := [(6, .int y4), (0, .ref a0), (1, .ref a1), (2, .int x2), (3, .long x3), (5, .int x5)]) dX5_productAt_16 (by decide) rfl ?_
    refine V.iload dX5_productAt_18 rfl ?_
    refine V.if_lt (tgt := 48) dX5_productAt_20 (by decide) (fun c7 => ?_) (fun c7 => ?_)
    · have H8 := H6.1 c7
      obtain ⟨y9, e10⟩ : ∃ y : Int32, y = x5 + 1 := ⟨_, rfl⟩
      have H11 := H8 y9 e10
      refine V.iinc (v := y9) (lo' := [(5, .int y9), (6, .int y4), (0, .ref a0), (1, .ref a1), (2, .int x2), (3, .long x3)]) dX5_productAt_48 rfl (by rw [e10]; rfl) (by decide) rfl ?_
      refine V.goto (tgt := 5) dX5_productAt_51 (by decide) ?_
      exact V.los [2, 3, 4, 5, 0] rfl H11
    · have H12 := H6.2 c7
      refine V.iload dX5_productAt_23 rfl ?_
      refine V.bipush (v := (6)) dX5_productAt_25 (by decide) ?_
      refine V.icmp_ge (tgt := 48) dX5_productAt_27 (by decide) (fun c13 => ?_) (fun c13 => ?_)
      · have H14 := H12.1 c13
        obtain ⟨y15, e16⟩ : ∃ y : Int32, y = x5 + 1 := ⟨_, rfl⟩
        have H17 := H14 y15 e16
        refine V.iinc (v := y15) (lo' := [(5, .int y15), (6, .int y4), (0, .ref a0), (1, .ref a1), (2, .int x2), (3, .long x3)]) dX5_productAt_48 rfl (by rw [e16]; rfl) (by decide) rfl ?_
        refine V.goto (tgt := 5) dX5_productAt_51 (by decide) ?_
        exact V.los [2, 3, 4, 5, 0] rfl H17
      · have H18 := H12.2 c13
        refine V.lload_n dX5_productAt_30 rfl rfl ?_
        refine V.aload_n dX5_productAt_31 rfl rfl ?_
        refine V.getf (v := .ref (a0 + 1)) dX5_productAt_32 fl_X5_11 h0.1 (by decide) rfl ?_
        refine V.iload dX5_productAt_35 rfl ?_
        obtain ⟨o19, H20⟩ := H18
        refine V.lald dX5_productAt_37 h0.2 o19 ?_
        refine V.aload_n dX5_productAt_38 rfl rfl ?_
        refine V.getf (v := .ref (a1 + 1)) dX5_productAt_39 fl_X5_11 h1.1 (by decide) rfl ?_
        refine V.iload dX5_productAt_42 rfl ?_
        obtain ⟨o21, H22⟩ := H20
        refine V.lald dX5_productAt_44 h1.2 o21 ?_
        refine V.lmul dX5_productAt_45 ?_
        refine V.ladd dX5_productAt_46 ?_
        refine V.topl (fun y23 e24 => ?_)
        have H25 := H22 y23 e24
        refine V.lstore_n (lo' := [(3, .long y23), (6, .int y4), (0, .ref a0), (1, .ref a1), (2, .int x2), (5, .int x5)]) dX5_productAt_47 rfl (by decide) rfl ?_
        obtain ⟨y26, e27⟩ : ∃ y : Int32, y = x5 + 1 := ⟨_, rfl⟩
        have H28 := H25 y26 e27
        refine V.iinc (v := y26) (lo' := [(5, .int y26), (3, .long y23), (6, .int y4), (0, .ref a0), (1, .ref a1), (2, .int x2)]) dX5_productAt_48 rfl (by rw [e27]; rfl) (by decide) rfl ?_
        refine V.goto (tgt := 5) dX5_productAt_51 (by decide) ?_
        exact V.los [3, 4, 5, 1, 0] rfl H28
set_option maxRecDepth 100000 in
set_option maxHeartbeats 4000000 in
theorem wp_X5_productAt {S : List mjD} {RET : Option Value → mjH → Prop} {p : Nat} (hp : is_Poly S p) {q : Nat} (hq : is_Poly S q) {a : Int32} {I : Nat → Nat → Int32} {L : Nat → Nat → Int64} (H0 : hd_X5_productAt_5 S RET p q a (0 : Int64) (0 : Int32) I L) : CT mr_X5_productAt (0, 0) [.ref p, .ref q, .int a] (S, I, L) RET := by
  refine CT.of (lo := [(0, .ref p), (1, .ref q), (2, .int a)]) (by decide) (fun _ _ => Nat.le_of_ble_eq_true rfl) (fun _ _ => rfl) rfl ?_
  refine V.lconst (v := 0) dX5_productAt_0 (by decide) ?_
  refine V.lstore_n (lo' := [(3, .long (0 : Int64)), (0, .ref p), (1, .ref q), (2, .int a)]) dX5_productAt_1 rfl (by decide) rfl ?_
  refine V.iconst (v := (0)) dX5_productAt_2 (by decide) ?_
  refine V.istore (lo' := [(5, .int (0 : Int32)), (3, .long (0 : Int64)), (0, .ref p), (1, .ref q), (2, .int a)]) dX5_productAt_3 (by decide) rfl ?_
  exact V.los [2, 3, 4, 1, 0] rfl H0
def hd_X5_order_2 (S : List mjD) (RET : Option Value → mjH → Prop) (a0 : Nat) (a1 : Nat) (x2 : Int32) (I : Nat → Nat → Int32) (L : Nat → Nat → Int64) : Prop := V mr_X5_order (0, 0) RET 2 [(0, .ref a0), (1, .ref a1), (2, .int x2)] [] (S, I, L) (0, 0)
set_option maxRecDepth 100000 in
set_option maxHeartbeats 4000000 in
theorem it_X5_order_2 {S : List mjD} {RET : Option Value → mjH → Prop} {a0 : Nat} (h0 : is_Poly S a0) {a1 : Nat} (h1 : is_Poly S a1) {x2 : Int32} {I : Nat → Nat → Int32} {L : Nat → Nat → Int64} (H0 : ((x2 < 0 → RET (some (.int (0 : Int32))) (S, I, L)) ∧ (¬ x2 < 0 → (vp_in x2 6) ∧ (vp_in x2 6) ∧ (((L (a0 + 1) x2.toNatClampNeg) = (L (a1 + 1) x2.toNatClampNeg) → ∀ y10 : Int32, y10 = x2 + (-1) → hd_X5_order_2 S RET a0 a1 y10 I L) ∧ (¬ (L (a0 + 1) x2.toNatClampNeg) = (L (a1 + 1) x2.toNatClampNeg) → (vp_in x2 6) ∧ (vp_in x2 6) ∧ (((L (a1 + 1) x2.toNatClampNeg) ≤ (L (a0 + 1) x2.toNatClampNeg) → RET (some (.int (1 : Int32))) (S, I, L)) ∧ (¬ (L (a1 + 1) x2.toNatClampNeg) ≤ (L (a0 + 1) x2.toNatClampNeg) → RET (some (.int (-1 : Int32))) (S, I, L)))))))) : hd_X5_order_2 S RET a0 a1 x2 I L := by
  unfold hd_X5_order_2
  refine V.iload_n dX5_order_2 rfl rfl ?_
  refine V.if_lt (tgt := 50) dX5_order_3 (by decide) (fun c1 => ?_) (fun c1 => ?_)
  · have H2 := H0.1 c1
    refine V.iconst (v := (0)) dX5_order_50 (by decide) ?_
    exact V.ret (v := some (.int (0 : Int32))) rfl (Or.inl ⟨_, rfl, dX5_order_51, _, rfl, rfl⟩) ⟨Nat.le_refl _, Nat.le_refl _⟩ H2
  · have H3 := H0.2 c1
    refine V.aload_n dX5_order_6 rfl rfl ?_
    refine V.getf (v := .ref (a0 + 1)) dX5_order_7 fl_X5_11 h0.1 (by decide) rfl ?_
    refine V.iload_n dX5_order_10 rfl rfl ?_
    obtain ⟨o4, H5⟩ := H3
    refine V.lald dX5_order_11 h0.2 o4 ?_
    refine V.aload_n dX5_order_12 rfl rfl ?_
    refine V.getf (v := .ref (a1 + 1)) dX5_order_13 fl_X5_11 h1.1 (by decide) rfl ?_
    refine V.iload_n dX5_order_16 rfl rfl ?_
    obtain ⟨o6, H7⟩ := H5
    refine V.lald dX5_order_17 h1.2 o6 ?_
    refine V.lc_eq (tgt := 44) dX5_order_18 dX5_order_19 (by decide) (fun c8 => ?_) (fun c8 => ?_)
    · have H9 := H7.1 c8
      obtain ⟨y10, e11⟩ : ∃ y : Int32, y = x2 + (-1) := ⟨_, rfl⟩
      have H12 := H9 y10 e11
      refine V.iinc (v := y10) (lo' := [(2, .int y10), (0, .ref a0), (1, .ref a1)]) dX5_order_44 rfl (by rw [e11]; rfl) (by decide) rfl ?_
      refine V.goto (tgt := 2) dX5_order_47 (by decide) ?_
      exact V.los [1, 2, 0] rfl H12
    · have H13 := H7.2 c8
      refine V.aload_n dX5_order_22 rfl rfl ?_
      refine V.getf (v := .ref (a0 + 1)) dX5_order_23 fl_X5_11 h0.1 (by decide) rfl ?_
      refine V.iload_n dX5_order_26 rfl rfl ?_
      obtain ⟨o14, H15⟩ := H13
      refine V.lald dX5_order_27 h0.2 o14 ?_
      refine V.aload_n dX5_order_28 rfl rfl ?_
      refine V.getf (v := .ref (a1 + 1)) dX5_order_29 fl_X5_11 h1.1 (by decide) rfl ?_
      refine V.iload_n dX5_order_32 rfl rfl ?_
      obtain ⟨o16, H17⟩ := H15
      refine V.lald dX5_order_33 h1.2 o16 ?_
      refine V.lc_ge (tgt := 42) dX5_order_34 dX5_order_35 (by decide) (fun c18 => ?_) (fun c18 => ?_)
      · have H19 := H17.1 c18
        refine V.iconst (v := (1)) dX5_order_42 (by decide) ?_
        exact V.ret (v := some (.int (1 : Int32))) rfl (Or.inl ⟨_, rfl, dX5_order_43, _, rfl, rfl⟩) ⟨Nat.le_refl _, Nat.le_refl _⟩ H19
      · have H20 := H17.2 c18
        refine V.iconst (v := (-1)) dX5_order_38 (by decide) ?_
        refine V.goto (tgt := 43) dX5_order_39 (by decide) ?_
        exact V.ret (v := some (.int (-1 : Int32))) rfl (Or.inl ⟨_, rfl, dX5_order_43, _, rfl, rfl⟩) ⟨Nat.le_refl _, Nat.le_refl _⟩ H20
set_option maxRecDepth 100000 in
set_option maxHeartbeats 4000000 in
theorem wp_X5_order {S : List mjD} {RET : Option Value → mjH → Prop} {p : Nat} (hp : is_Poly S p) {q : Nat} (hq : is_Poly S q) {I : Nat → Nat → Int32} {L : Nat → Nat → Int64} (H0 : hd_X5_order_2 S RET p q (5 : Int32) I L) : CT mr_X5_order (0, 0) [.ref p, .ref q] (S, I, L) RET := by
  refine CT.of (lo := [(0, .ref p), (1, .ref q)]) (by decide) (fun _ _ => Nat.le_of_ble_eq_true rfl) (fun _ _ => rfl) rfl ?_
  refine V.iconst (v := (5)) dX5_order_0 (by decide) ?_
  refine V.istore_n (lo' := [(2, .int (5 : Int32)), (0, .ref p), (1, .ref q)]) dX5_order_1 rfl (by decide) rfl ?_
  exact V.los [1, 2, 0] rfl H0
def hd_X3_nextQuestion_7 (S : List mjD) (RET : Option Value → mjH → Prop) (x0 : Int32) (x1 : Int32) (x2 : Int32) (x3 : Int32) (I : Nat → Nat → Int32) (L : Nat → Nat → Int64) : Prop := V mr_X3_nextQuestion (0, 0) RET 7 [(0, .int x0), (1, .int x1), (2, .int x2), (3, .int x3)] [] (S, I, L) (0, 0)
set_option maxRecDepth 100000 in
set_option maxHeartbeats 4000000 in
theorem it_X3_nextQuestion_7 {S : List mjD} {RET : Option Value → mjH → Prop} {x0 : Int32} {x1 : Int32} {x2 : Int32} {x3 : Int32} {I : Nat → Nat → Int32} {L : Nat → Nat → Int64} (H0 : (((4 : Int32) ≤ x3 → RET (some (.int x1)) (S, I, L)) ∧ (¬ (4 : Int32) ≤ x3 → ((x0 = 0 → RET (some (.int x1)) (S, I, L)) ∧ (¬ x0 = 0 → (vp_in x3 4) ∧ ∃ r9 I10 L11, CTi mr_J6_bitCount_0f7a4 [.int (x0 &&& ((mj_st 1000003).getD x3.toNatClampNeg 0))] S I L r9 I10 L11 ∧ (vp_in x3 4) ∧ ∃ r16 I17 L18, CTi mr_J6_bitCount_0f7a4 [.int (x0 &&& (((mj_st 1000003).getD x3.toNatClampNeg 0) ^^^ (-1 : Int32)))] S I10 L11 r16 I17 L18 ∧ ∃ r21 I22 L23, CTi mr_J9_max_7cf53 [.int r9, .int r16] S I17 L18 r21 I22 L23 ∧ ((x2 ≤ r21 → ∀ y28 : Int32, y28 = x3 + 1 → hd_X3_nextQuestion_7 S RET x0 x1 x2 y28 I22 L23) ∧ (¬ x2 ≤ r21 → ∀ y32 : Int32, y32 = x3 + 1 → hd_X3_nextQuestion_7 S RET x0 x3 r21 y32 I22 L23))))))) : hd_X3_nextQuestion_7 S RET x0 x1 x2 x3 I L := by
  unfold hd_X3_nextQuestion_7
  refine V.iload_n dX3_nextQuestion_7 rfl rfl ?_
  refine V.gets_HAPPENS dX3_nextQuestion_8 gs_X3_22 ?_
  refine V.len_HAPPENS dX3_nextQuestion_11 ?_
  refine V.icmp_ge (tgt := 71) dX3_nextQuestion_12 (by decide) (fun c1 => ?_) (fun c1 => ?_)
  · have H2 := H0.1 c1
    refine V.iload_n dX3_nextQuestion_71 rfl rfl ?_
    exact V.ret (v := some (.int x1)) rfl (Or.inl ⟨_, rfl, dX3_nextQuestion_72, _, rfl, rfl⟩) ⟨Nat.le_refl _, Nat.le_refl _⟩ H2
  · have H3 := H0.2 c1
    refine V.iload_n dX3_nextQuestion_15 rfl rfl ?_
    refine V.if_eq (tgt := 71) dX3_nextQuestion_16 (by decide) (fun c4 => ?_) (fun c4 => ?_)
    · have H5 := H3.1 c4
      refine V.iload_n dX3_nextQuestion_71 rfl rfl ?_
      exact V.ret (v := some (.int x1)) rfl (Or.inl ⟨_, rfl, dX3_nextQuestion_72, _, rfl, rfl⟩) ⟨Nat.le_refl _, Nat.le_refl _⟩ H5
    · have H6 := H3.2 c4
      refine V.iload_n dX3_nextQuestion_19 rfl rfl ?_
      refine V.gets_HAPPENS dX3_nextQuestion_20 gs_X3_22 ?_
      refine V.iload_n dX3_nextQuestion_23 rfl rfl ?_
      obtain ⟨o7, H8⟩ := H6
      refine V.ld_HAPPENS dX3_nextQuestion_24 o7 rfl ?_
      refine V.iand dX3_nextQuestion_25 ?_
      obtain ⟨r9, I10, L11, t12, H13⟩ := H8
      refine V.cSi (N := mr_J6_bitCount_0f7a4) (as := [.int (x0 &&& ((mj_st 1000003).getD x3.toNatClampNeg 0))]) dX3_nextQuestion_26 ml_X3_25 ok_J6_bitCount_0f7a4 okS_J6_bitCount_0f7a4 ⟨Nat.le_of_ble_eq_true rfl, Nat.le_of_ble_eq_true rfl⟩ rfl rfl (Nat.le_of_ble_eq_true rfl) t12 ?_
      refine V.istore (lo' := [(4, .int r9), (0, .int x0), (1, .int x1), (2, .int x2), (3, .int x3)]) dX3_nextQuestion_29 (by decide) rfl ?_
      refine V.iload_n dX3_nextQuestion_31 rfl rfl ?_
      refine V.gets_HAPPENS dX3_nextQuestion_32 gs_X3_22 ?_
      refine V.iload_n dX3_nextQuestion_35 rfl rfl ?_
      obtain ⟨o14, H15⟩ := H13
      refine V.ld_HAPPENS dX3_nextQuestion_36 o14 rfl ?_
      refine V.iconst (v := (-1)) dX3_nextQuestion_37 (by decide) ?_
      refine V.ixor dX3_nextQuestion_38 ?_
      refine V.iand dX3_nextQuestion_39 ?_
      obtain ⟨r16, I17, L18, t19, H20⟩ := H15
      refine V.cSi (N := mr_J6_bitCount_0f7a4) (as := [.int (x0 &&& (((mj_st 1000003).getD x3.toNatClampNeg 0) ^^^ (-1 : Int32)))]) dX3_nextQuestion_40 ml_X3_25 ok_J6_bitCount_0f7a4 okS_J6_bitCount_0f7a4 ⟨Nat.le_of_ble_eq_true rfl, Nat.le_of_ble_eq_true rfl⟩ rfl rfl (Nat.le_of_ble_eq_true rfl) t19 ?_
      refine V.istore (lo' := [(5, .int r16), (4, .int r9), (0, .int x0), (1, .int x1), (2, .int x2), (3, .int x3)]) dX3_nextQuestion_43 (by decide) rfl ?_
      refine V.iload dX3_nextQuestion_45 rfl ?_
      refine V.iload dX3_nextQuestion_47 rfl ?_
      obtain ⟨r21, I22, L23, t24, H25⟩ := H20
      refine V.cSi (N := mr_J9_max_7cf53) (as := [.int r9, .int r16]) dX3_nextQuestion_49 ml_X3_31 ok_J9_max_7cf53 okS_J9_max_7cf53 ⟨Nat.le_of_ble_eq_true rfl, Nat.le_of_ble_eq_true rfl⟩ rfl rfl (Nat.le_of_ble_eq_true rfl) t24 ?_
      refine V.istore (lo' := [(6, .int r21), (5, .int r16), (4, .int r9), (0, .int x0), (1, .int x1), (2, .int x2), (3, .int x3)]) dX3_nextQuestion_52 (by decide) rfl ?_
      refine V.iload dX3_nextQuestion_54 rfl ?_
      refine V.iload_n dX3_nextQuestion_56 rfl rfl ?_
      refine V.icmp_ge (tgt := 65) dX3_nextQuestion_57 (by decide) (fun c26 => ?_) (fun c26 => ?_)
      · have H27 := H25.1 c26
        obtain ⟨y28, e29⟩ : ∃ y : Int32, y = x3 + 1 := ⟨_, rfl⟩
        have H30 := H27 y28 e29
        refine V.iinc (v := y28) (lo' := [(3, .int y28), (6, .int r21), (5, .int r16), (4, .int r9), (0, .int x0), (1, .int x1), (2, .int x2)]) dX3_nextQuestion_65 rfl (by rw [e29]; rfl) (by decide) rfl ?_
        refine V.goto (tgt := 7) dX3_nextQuestion_68 (by decide) ?_
        exact V.los [4, 5, 6, 0] rfl H30
      · have H31 := H25.2 c26
        refine V.iload dX3_nextQuestion_60 rfl ?_
        refine V.istore_n (lo' := [(2, .int r21), (6, .int r21), (5, .int r16), (4, .int r9), (0, .int x0), (1, .int x1), (3, .int x3)]) dX3_nextQuestion_62 rfl (by decide) rfl ?_
        refine V.iload_n dX3_nextQuestion_63 rfl rfl ?_
        refine V.istore_n (lo' := [(1, .int x3), (2, .int r21), (6, .int r21), (5, .int r16), (4, .int r9), (0, .int x0), (3, .int x3)]) dX3_nextQuestion_64 rfl (by decide) rfl ?_
        obtain ⟨y32, e33⟩ : ∃ y : Int32, y = x3 + 1 := ⟨_, rfl⟩
        have H34 := H31 y32 e33
        refine V.iinc (v := y32) (lo' := [(3, .int y32), (1, .int x3), (2, .int r21), (6, .int r21), (5, .int r16), (4, .int r9), (0, .int x0)]) dX3_nextQuestion_65 rfl (by rw [e33]; rfl) (by decide) rfl ?_
        refine V.goto (tgt := 7) dX3_nextQuestion_68 (by decide) ?_
        exact V.los [6, 1, 2, 0] rfl H34
set_option maxRecDepth 100000 in
set_option maxHeartbeats 4000000 in
theorem wp_X3_nextQuestion {S : List mjD} {RET : Option Value → mjH → Prop} {a : Int32} {I : Nat → Nat → Int32} {L : Nat → Nat → Int64} (H0 : hd_X3_nextQuestion_7 S RET a (-1 : Int32) (6 : Int32) (0 : Int32) I L) : CT mr_X3_nextQuestion (0, 0) [.int a] (S, I, L) RET := by
  refine CT.of (lo := [(0, .int a)]) (by decide) (fun _ _ => Nat.le_of_ble_eq_true rfl) (fun _ _ => rfl) rfl ?_
  refine V.iconst (v := (-1)) dX3_nextQuestion_0 (by decide) ?_
  refine V.istore_n (lo' := [(1, .int (-1 : Int32)), (0, .int a)]) dX3_nextQuestion_1 rfl (by decide) rfl ?_
  refine V.bipush (v := (6)) dX3_nextQuestion_2 (by decide) ?_
  refine V.istore_n (lo' := [(2, .int (6 : Int32)), (1, .int (-1 : Int32)), (0, .int a)]) dX3_nextQuestion_4 rfl (by decide) rfl ?_
  refine V.iconst (v := (0)) dX3_nextQuestion_5 (by decide) ?_
  refine V.istore_n (lo' := [(3, .int (0 : Int32)), (2, .int (6 : Int32)), (1, .int (-1 : Int32)), (0, .int a)]) dX3_nextQuestion_6 rfl (by decide) rfl ?_
  exact V.los [3, 2, 1, 0] rfl H0
def hd_X5_commonDivisor_15 (S : List mjD) (RET : Option Value → mjH → Prop) (x4 : Int64) (x6 : Int64) (x8 : Int32) (I : Nat → Nat → Int32) (L : Nat → Nat → Int64) : Prop := V mr_X5_commonDivisor (0, 0) RET 15 [(4, .long x4), (6, .long x6), (8, .int x8)] [] (S, I, L) (0, 0)
set_option maxRecDepth 100000 in
set_option maxHeartbeats 4000000 in
theorem it_X5_commonDivisor_15 {S : List mjD} {RET : Option Value → mjH → Prop} {x4 : Int64} {x6 : Int64} {x8 : Int32} {I : Nat → Nat → Int32} {L : Nat → Nat → Int64} (H0 : (((100 : Int32) ≤ x8 → RET (some (.long x4)) (S, I, L)) ∧ (¬ (100 : Int32) ≤ x8 → ((x6 = (0 : Int64) → RET (some (.long x4)) (S, I, L)) ∧ (¬ x6 = (0 : Int64) → (¬ x6 = 0) ∧ ∀ y19 : Int64, y19 = (x4 - x4 / x6 * x6) → ∀ y22 : Int32, y22 = x8 + 1 → hd_X5_commonDivisor_15 S RET x6 y19 y22 I L))))) : hd_X5_commonDivisor_15 S RET x4 x6 x8 I L := by
  unfold hd_X5_commonDivisor_15
  refine V.iload dX5_commonDivisor_15 rfl ?_
  refine V.bipush (v := (100)) dX5_commonDivisor_17 (by decide) ?_
  refine V.icmp_ge (tgt := 50) dX5_commonDivisor_19 (by decide) (fun c11 => ?_) (fun c11 => ?_)
  · have H12 := H0.1 c11
    refine V.lload dX5_commonDivisor_50 rfl ?_
    exact V.ret (v := some (.long x4)) rfl (Or.inr (Or.inl ⟨_, rfl, dX5_commonDivisor_52, rfl⟩)) ⟨Nat.le_refl _, Nat.le_refl _⟩ H12
  · have H13 := H0.2 c11
    refine V.lload dX5_commonDivisor_22 rfl ?_
    refine V.lconst (v := 0) dX5_commonDivisor_24 (by decide) ?_
    refine V.lc_eq (tgt := 50) dX5_commonDivisor_25 dX5_commonDivisor_26 (by decide) (fun c14 => ?_) (fun c14 => ?_)
    · have H15 := H13.1 c14
      refine V.lload dX5_commonDivisor_50 rfl ?_
      exact V.ret (v := some (.long x4)) rfl (Or.inr (Or.inl ⟨_, rfl, dX5_commonDivisor_52, rfl⟩)) ⟨Nat.le_refl _, Nat.le_refl _⟩ H15
    · have H16 := H13.2 c14
      refine V.lload dX5_commonDivisor_29 rfl ?_
      refine V.lload dX5_commonDivisor_31 rfl ?_
      obtain ⟨o17, H18⟩ := H16
      refine V.lrem dX5_commonDivisor_33 o17 ?_
      refine V.topl (fun y19 e20 => ?_)
      have H21 := H18 y19 e20
      refine V.lstore (lo' := [(9, .long y19), (4, .long x4), (6, .long x6), (8, .int x8)]) dX5_commonDivisor_34 (by decide) rfl ?_
      refine V.lload dX5_commonDivisor_36 rfl ?_
      refine V.lstore (lo' := [(4, .long x6), (9, .long y19), (6, .long x6), (8, .int x8)]) dX5_commonDivisor_38 (by decide) rfl ?_
      refine V.lload dX5_commonDivisor_40 rfl ?_
      refine V.lstore (lo' := [(6, .long y19), (4, .long x6), (9, .long y19), (8, .int x8)]) dX5_commonDivisor_42 (by decide) rfl ?_
      obtain ⟨y22, e23⟩ : ∃ y : Int32, y = x8 + 1 := ⟨_, rfl⟩
      have H24 := H21 y22 e23
      refine V.iinc (v := y22) (lo' := [(8, .int y22), (6, .long y19), (4, .long x6), (9, .long y19)]) dX5_commonDivisor_44 rfl (by rw [e23]; rfl) (by decide) rfl ?_
      refine V.goto (tgt := 15) dX5_commonDivisor_47 (by decide) ?_
      exact V.los [2, 1, 0] rfl H24
set_option maxRecDepth 100000 in
set_option maxHeartbeats 4000000 in
theorem wp_X5_commonDivisor {S : List mjD} {RET : Option Value → mjH → Prop} {a : Int64} {b : Int64} {I : Nat → Nat → Int32} {L : Nat → Nat → Int64} (H0 : ∃ r1 I2 L3, CTl mr_J9_abs_067f4 [.long a] S I L r1 I2 L3 ∧ ∃ r6 I7 L8, CTl mr_J9_abs_067f4 [.long b] S I2 L3 r6 I7 L8 ∧ hd_X5_commonDivisor_15 S RET r1 r6 (0 : Int32) I7 L8) : CT mr_X5_commonDivisor (0, 0) [.long a, .long b] (S, I, L) RET := by
  refine CT.of (lo := [(0, .long a), (2, .long b)]) (by decide) (fun _ _ => Nat.le_of_ble_eq_true rfl) (fun _ _ => rfl) rfl ?_
  refine V.lload_n dX5_commonDivisor_0 rfl rfl ?_
  obtain ⟨r1, I2, L3, t4, H5⟩ := H0
  refine V.cSl (N := mr_J9_abs_067f4) (as := [.long a]) dX5_commonDivisor_1 ml_X5_23 ok_J9_abs_067f4 okS_J9_abs_067f4 ⟨Nat.le_of_ble_eq_true rfl, Nat.le_of_ble_eq_true rfl⟩ rfl rfl (Nat.le_of_ble_eq_true rfl) t4 ?_
  refine V.lstore (lo' := [(4, .long r1), (0, .long a), (2, .long b)]) dX5_commonDivisor_4 (by decide) rfl ?_
  refine V.lload_n dX5_commonDivisor_6 rfl rfl ?_
  obtain ⟨r6, I7, L8, t9, H10⟩ := H5
  refine V.cSl (N := mr_J9_abs_067f4) (as := [.long b]) dX5_commonDivisor_7 ml_X5_23 ok_J9_abs_067f4 okS_J9_abs_067f4 ⟨Nat.le_of_ble_eq_true rfl, Nat.le_of_ble_eq_true rfl⟩ rfl rfl (Nat.le_of_ble_eq_true rfl) t9 ?_
  refine V.lstore (lo' := [(6, .long r6), (4, .long r1), (0, .long a), (2, .long b)]) dX5_commonDivisor_10 (by decide) rfl ?_
  refine V.iconst (v := (0)) dX5_commonDivisor_12 (by decide) ?_
  refine V.istore (lo' := [(8, .int (0 : Int32)), (6, .long r6), (4, .long r1), (0, .long a), (2, .long b)]) dX5_commonDivisor_13 (by decide) rfl ?_
  exact V.los [2, 1, 0] rfl H10
def hd_X5_derivativeFrom_2 (S : List mjD) (RET : Option Value → mjH → Prop) (a0 : Nat) (a1 : Nat) (x2 : Int32) (I : Nat → Nat → Int32) (L : Nat → Nat → Int64) : Prop := V mr_X5_derivativeFrom (0, 0) RET 2 [(0, .ref a0), (1, .ref a1), (2, .int x2)] [] (S, I, L) (0, 0)
set_option maxRecDepth 100000 in
set_option maxHeartbeats 4000000 in
theorem it_X5_derivativeFrom_2 {S : List mjD} {RET : Option Value → mjH → Prop} {a0 : Nat} (h0 : is_Poly S a0) {a1 : Nat} (h1 : is_Poly S a1) {x2 : Int32} {I : Nat → Nat → Int32} {L : Nat → Nat → Int64} (H0 : (((6 : Int32) ≤ x2 → RET none (S, I, L)) ∧ (¬ (6 : Int32) ≤ x2 → ∃ r4 I5 L6, CTl mr_X5_at [.ref a1, .int (x2 + (1 : Int32))] S I L r4 I5 L6 ∧ (vp_in x2 6) ∧ ∀ y11 : Int32, y11 = x2 + 1 → hd_X5_derivativeFrom_2 S RET a0 a1 y11 I5 (mj_up L6 (a0 + 1) x2.toNatClampNeg ((x2 + (1 : Int32)).toInt64 * r4))))) : hd_X5_derivativeFrom_2 S RET a0 a1 x2 I L := by
  unfold hd_X5_derivativeFrom_2
  refine V.iload_n dX5_derivativeFrom_2 rfl rfl ?_
  refine V.bipush (v := (6)) dX5_derivativeFrom_3 (by decide) ?_
  refine V.icmp_ge (tgt := 32) dX5_derivativeFrom_5 (by decide) (fun c1 => ?_) (fun c1 => ?_)
  · have H2 := H0.1 c1
    exact V.ret rfl (Or.inr (Or.inr (Or.inr ⟨rfl, dX5_derivativeFrom_32, rfl⟩))) ⟨Nat.le_refl _, Nat.le_refl _⟩ H2
  · have H3 := H0.2 c1
    refine V.aload_n dX5_derivativeFrom_8 rfl rfl ?_
    refine V.getf (v := .ref (a0 + 1)) dX5_derivativeFrom_9 fl_X5_11 h0.1 (by decide) rfl ?_
    refine V.iload_n dX5_derivativeFrom_12 rfl rfl ?_
    refine V.iload_n dX5_derivativeFrom_13 rfl rfl ?_
    refine V.iconst (v := (1)) dX5_derivativeFrom_14 (by decide) ?_
    refine V.iadd dX5_derivativeFrom_15 ?_
    refine V.i2l dX5_derivativeFrom_16 ?_
    refine V.aload_n dX5_derivativeFrom_17 rfl rfl ?_
    refine V.iload_n dX5_derivativeFrom_18 rfl rfl ?_
    refine V.iconst (v := (1)) dX5_derivativeFrom_19 (by decide) ?_
    refine V.iadd dX5_derivativeFrom_20 ?_
    obtain ⟨r4, I5, L6, t7, H8⟩ := H3
    refine V.cVl (N := mr_X5_at) (as := [.int (x2 + (1 : Int32))]) dX5_derivativeFrom_21 ml_X5_37 ok_X5_at okV_X5_at ⟨Nat.le_of_ble_eq_true rfl, Nat.le_of_ble_eq_true rfl⟩ h1.1 rfl rfl rfl (Nat.le_of_ble_eq_true rfl) t7 ?_
    refine V.lmul dX5_derivativeFrom_24 ?_
    obtain ⟨o9, H10⟩ := H8
    refine V.last dX5_derivativeFrom_25 h0.2 o9 ?_
    obtain ⟨y11, e12⟩ : ∃ y : Int32, y = x2 + 1 := ⟨_, rfl⟩
    have H13 := H10 y11 e12
    refine V.iinc (v := y11) (lo' := [(2, .int y11), (0, .ref a0), (1, .ref a1)]) dX5_derivativeFrom_26 rfl (by rw [e12]; rfl) (by decide) rfl ?_
    refine V.goto (tgt := 2) dX5_derivativeFrom_29 (by decide) ?_
    exact V.los [1, 2, 0] rfl H13
set_option maxRecDepth 100000 in
set_option maxHeartbeats 4000000 in
theorem wp_X5_derivativeFrom {S : List mjD} {RET : Option Value → mjH → Prop} {p : Nat} (hp : is_Poly S p) {q : Nat} (hq : is_Poly S q) {I : Nat → Nat → Int32} {L : Nat → Nat → Int64} (H0 : hd_X5_derivativeFrom_2 S RET p q (0 : Int32) I L) : CT mr_X5_derivativeFrom (0, 0) [.ref p, .ref q] (S, I, L) RET := by
  refine CT.of (lo := [(0, .ref p), (1, .ref q)]) (by decide) (fun _ _ => Nat.le_of_ble_eq_true rfl) (fun _ _ => rfl) rfl ?_
  refine V.iconst (v := (0)) dX5_derivativeFrom_0 (by decide) ?_
  refine V.istore_n (lo' := [(2, .int (0 : Int32)), (0, .ref p), (1, .ref q)]) dX5_derivativeFrom_1 rfl (by decide) rfl ?_
  exact V.los [1, 2, 0] rfl H0
def hd_X5_reverseFrom_7 (S : List mjD) (RET : Option Value → mjH → Prop) (a0 : Nat) (a1 : Nat) (x2 : Int32) (x3 : Int32) (I : Nat → Nat → Int32) (L : Nat → Nat → Int64) : Prop := V mr_X5_reverseFrom (0, 0) RET 7 [(0, .ref a0), (1, .ref a1), (2, .int x2), (3, .int x3)] [] (S, I, L) (0, 0)
set_option maxRecDepth 100000 in
set_option maxHeartbeats 4000000 in
theorem it_X5_reverseFrom_7 {S : List mjD} {RET : Option Value → mjH → Prop} {a0 : Nat} (h0 : is_Poly S a0) {a1 : Nat} (h1 : is_Poly S a1) {x2 : Int32} {x3 : Int32} {I : Nat → Nat → Int32} {L : Nat → Nat → Int64} (H0 : (((6 : Int32) ≤ x3 → RET none (S, I, L)) ∧ (¬ (6 : Int32) ≤ x3 → ∃ r9 I10 L11, CTl mr_X5_at [.ref a1, .int (x2 - x3)] S I L r9 I10 L11 ∧ (vp_in x3 6) ∧ ∀ y16 : Int32, y16 = x3 + 1 → hd_X5_reverseFrom_7 S RET a0 a1 x2 y16 I10 (mj_up L11 (a0 + 1) x3.toNatClampNeg r9)))) : hd_X5_reverseFrom_7 S RET a0 a1 x2 x3 I L := by
  unfold hd_X5_reverseFrom_7
  refine V.iload_n dX5_reverseFrom_7 rfl rfl ?_
  refine V.bipush (v := (6)) dX5_reverseFrom_8 (by decide) ?_
  refine V.icmp_ge (tgt := 32) dX5_reverseFrom_10 (by decide) (fun c6 => ?_) (fun c6 => ?_)
  · have H7 := H0.1 c6
    exact V.ret rfl (Or.inr (Or.inr (Or.inr ⟨rfl, dX5_reverseFrom_32, rfl⟩))) ⟨Nat.le_refl _, Nat.le_refl _⟩ H7
  · have H8 := H0.2 c6
    refine V.aload_n dX5_reverseFrom_13 rfl rfl ?_
    refine V.getf (v := .ref (a0 + 1)) dX5_reverseFrom_14 fl_X5_11 h0.1 (by decide) rfl ?_
    refine V.iload_n dX5_reverseFrom_17 rfl rfl ?_
    refine V.aload_n dX5_reverseFrom_18 rfl rfl ?_
    refine V.iload_n dX5_reverseFrom_19 rfl rfl ?_
    refine V.iload_n dX5_reverseFrom_20 rfl rfl ?_
    refine V.isub dX5_reverseFrom_21 ?_
    obtain ⟨r9, I10, L11, t12, H13⟩ := H8
    refine V.cVl (N := mr_X5_at) (as := [.int (x2 - x3)]) dX5_reverseFrom_22 ml_X5_37 ok_X5_at okV_X5_at ⟨Nat.le_of_ble_eq_true rfl, Nat.le_of_ble_eq_true rfl⟩ h1.1 rfl rfl rfl (Nat.le_of_ble_eq_true rfl) t12 ?_
    obtain ⟨o14, H15⟩ := H13
    refine V.last dX5_reverseFrom_25 h0.2 o14 ?_
    obtain ⟨y16, e17⟩ : ∃ y : Int32, y = x3 + 1 := ⟨_, rfl⟩
    have H18 := H15 y16 e17
    refine V.iinc (v := y16) (lo' := [(3, .int y16), (0, .ref a0), (1, .ref a1), (2, .int x2)]) dX5_reverseFrom_26 rfl (by rw [e17]; rfl) (by decide) rfl ?_
    refine V.goto (tgt := 7) dX5_reverseFrom_29 (by decide) ?_
    exact V.los [1, 2, 3, 0] rfl H18
set_option maxRecDepth 100000 in
set_option maxHeartbeats 4000000 in
theorem wp_X5_reverseFrom {S : List mjD} {RET : Option Value → mjH → Prop} {p : Nat} (hp : is_Poly S p) {q : Nat} (hq : is_Poly S q) {I : Nat → Nat → Int32} {L : Nat → Nat → Int64} (H0 : ∃ r1 I2 L3, CTi mr_X5_degree [.ref q] S I L r1 I2 L3 ∧ hd_X5_reverseFrom_7 S RET p q r1 (0 : Int32) I2 L3) : CT mr_X5_reverseFrom (0, 0) [.ref p, .ref q] (S, I, L) RET := by
  refine CT.of (lo := [(0, .ref p), (1, .ref q)]) (by decide) (fun _ _ => Nat.le_of_ble_eq_true rfl) (fun _ _ => rfl) rfl ?_
  refine V.aload_n dX5_reverseFrom_0 rfl rfl ?_
  obtain ⟨r1, I2, L3, t4, H5⟩ := H0
  refine V.cVi (N := mr_X5_degree) (as := []) dX5_reverseFrom_1 ml_X5_33 ok_X5_degree okV_X5_degree ⟨Nat.le_of_ble_eq_true rfl, Nat.le_of_ble_eq_true rfl⟩ hq.1 rfl rfl rfl (Nat.le_of_ble_eq_true rfl) t4 ?_
  refine V.istore_n (lo' := [(2, .int r1), (0, .ref p), (1, .ref q)]) dX5_reverseFrom_4 rfl (by decide) rfl ?_
  refine V.iconst (v := (0)) dX5_reverseFrom_5 (by decide) ?_
  refine V.istore_n (lo' := [(3, .int (0 : Int32)), (2, .int r1), (0, .ref p), (1, .ref q)]) dX5_reverseFrom_6 rfl (by decide) rfl ?_
  exact V.los [2, 3, 1, 0] rfl H5
def hd_X5_spellTerm_59 (S : List mjD) (RET : Option Value → mjH → Prop) (a0 : Nat) (x3 : Int32) (x4 : Int64) (x6 : Int32) (x7 : Int32) (I : Nat → Nat → Int32) (L : Nat → Nat → Int64) : Prop := V mr_X5_spellTerm (0, 0) RET 59 [(0, .ref a0), (3, .int x3), (4, .long x4), (6, .int x6), (7, .int x7)] [] (S, I, L) (0, 0)
set_option maxRecDepth 100000 in
set_option maxHeartbeats 4000000 in
theorem it_X5_spellTerm_59 {S : List mjD} {RET : Option Value → mjH → Prop} {a0 : Nat} (h0 : is_Line S a0) {x3 : Int32} {x4 : Int64} {x6 : Int32} {x7 : Int32} {I : Nat → Nat → Int32} {L : Nat → Nat → Int64} (H0 : ((x7 ≤ 0 → ((x3 < (1 : Int32) → ((x3 < (2 : Int32) → RET none (S, I, L)) ∧ (¬ x3 < (2 : Int32) → ∃ r57 I58 L59, CTi mr_X2_append [.ref a0, .int (94 : Int32)] S I L r57 I58 L59 ∧ ∃ r62 I63 L64, CTi mr_X2_append [.ref a0, .int ((48 : Int32) + x3)] S I58 L59 r62 I63 L64 ∧ RET none (S, I63, L64)))) ∧ (¬ x3 < (1 : Int32) → ∃ r68 I69 L70, CTi mr_X2_append [.ref a0, .int (120 : Int32)] S I L r68 I69 L70 ∧ ((x3 < (2 : Int32) → RET none (S, I69, L70)) ∧ (¬ x3 < (2 : Int32) → ∃ r76 I77 L78, CTi mr_X2_append [.ref a0, .int (94 : Int32)] S I69 L70 r76 I77 L78 ∧ ∃ r81 I82 L83, CTi mr_X2_append [.ref a0, .int ((48 : Int32) + x3)] S I77 L78 r81 I82 L83 ∧ RET none (S, I82, L83)))))) ∧ (¬ x7 ≤ 0 → ((¬ x6 = 0 → ((x3 < (1 : Int32) → ((x3 < (2 : Int32) → RET none (S, I, L)) ∧ (¬ x3 < (2 : Int32) → ∃ r94 I95 L96, CTi mr_X2_append [.ref a0, .int (94 : Int32)] S I L r94 I95 L96 ∧ ∃ r99 I100 L101, CTi mr_X2_append [.ref a0, .int ((48 : Int32) + x3)] S I95 L96 r99 I100 L101 ∧ RET none (S, I100, L101)))) ∧ (¬ x3 < (1 : Int32) → ∃ r105 I106 L107, CTi mr_X2_append [.ref a0, .int (120 : Int32)] S I L r105 I106 L107 ∧ ((x3 < (2 : Int32) → RET none (S, I106, L107)) ∧ (¬ x3 < (2 : Int32) → ∃ r113 I114 L115, CTi mr_X2_append [.ref a0, .int (94 : Int32)] S I106 L107 r113 I114 L115 ∧ ∃ r118 I119 L120, CTi mr_X2_append [.ref a0, .int ((48 : Int32) + x3)] S I114 L115 r118 I119 L120 ∧ RET none (S, I119, L120)))))) ∧ (x6 = 0 → ((x4 < x7.toInt64 → ∀ y126 : Int32, y126 = (x7 / (10 : Int32)) → hd_X5_spellTerm_59 S RET a0 x3 x4 x6 y126 I L) ∧ (¬ x4 < x7.toInt64 → (¬ x7.toInt64 = 0) ∧ ∃ r132 I133 L134, CTi mr_X2_append [.ref a0, .int ((48 : Int32) + ((x4 / x7.toInt64) - (x4 / x7.toInt64) / (10 : Int64) * (10 : Int64)).toInt32)] S I L r132 I133 L134 ∧ ∀ y137 : Int32, y137 = (x7 / (10 : Int32)) → hd_X5_spellTerm_59 S RET a0 x3 x4 x6 y137 I133 L134))))))) : hd_X5_spellTerm_59 S RET a0 x3 x4 x6 x7 I L := by
  unfold hd_X5_spellTerm_59
  refine V.iload dX5_spellTerm_59 rfl ?_
  refine V.if_le (tgt := 107) dX5_spellTerm_61 (by decide) (fun c50 => ?_) (fun c50 => ?_)
  · have H51 := H0.1 c50
    refine V.iload_n dX5_spellTerm_107 rfl rfl ?_
    refine V.iconst (v := (1)) dX5_spellTerm_108 (by decide) ?_
    refine V.icmp_lt (tgt := 119) dX5_spellTerm_109 (by decide) (fun c52 => ?_) (fun c52 => ?_)
    · have H53 := H51.1 c52
      refine V.iload_n dX5_spellTerm_119 rfl rfl ?_
      refine V.iconst (v := (2)) dX5_spellTerm_120 (by decide) ?_
      refine V.icmp_lt (tgt := 140) dX5_spellTerm_121 (by decide) (fun c54 => ?_) (fun c54 => ?_)
      · have H55 := H53.1 c54
        exact V.ret rfl (Or.inr (Or.inr (Or.inr ⟨rfl, dX5_spellTerm_140, rfl⟩))) ⟨Nat.le_refl _, Nat.le_refl _⟩ H55
      · have H56 := H53.2 c54
        refine V.aload_n dX5_spellTerm_124 rfl rfl ?_
        refine V.bipush (v := (94)) dX5_spellTerm_125 (by decide) ?_
        obtain ⟨r57, I58, L59, t60, H61⟩ := H56
        refine V.cVi (N := mr_X2_append) (as := [.int (94 : Int32)]) dX5_spellTerm_127 ml_X5_63 ok_X2_append okV_X2_append ⟨Nat.le_of_ble_eq_true rfl, Nat.le_of_ble_eq_true rfl⟩ h0.1 rfl rfl rfl (Nat.le_of_ble_eq_true rfl) t60 ?_
        refine V.pop dX5_spellTerm_130 rfl ?_
        refine V.aload_n dX5_spellTerm_131 rfl rfl ?_
        refine V.bipush (v := (48)) dX5_spellTerm_132 (by decide) ?_
        refine V.iload_n dX5_spellTerm_134 rfl rfl ?_
        refine V.iadd dX5_spellTerm_135 ?_
        obtain ⟨r62, I63, L64, t65, H66⟩ := H61
        refine V.cVi (N := mr_X2_append) (as := [.int ((48 : Int32) + x3)]) dX5_spellTerm_136 ml_X5_63 ok_X2_append okV_X2_append ⟨Nat.le_of_ble_eq_true rfl, Nat.le_of_ble_eq_true rfl⟩ h0.1 rfl rfl rfl (Nat.le_of_ble_eq_true rfl) t65 ?_
        refine V.pop dX5_spellTerm_139 rfl ?_
        exact V.ret rfl (Or.inr (Or.inr (Or.inr ⟨rfl, dX5_spellTerm_140, rfl⟩))) ⟨Nat.le_refl _, Nat.le_refl _⟩ H66
    · have H67 := H51.2 c52
      refine V.aload_n dX5_spellTerm_112 rfl rfl ?_
      refine V.bipush (v := (120)) dX5_spellTerm_113 (by decide) ?_
      obtain ⟨r68, I69, L70, t71, H72⟩ := H67
      refine V.cVi (N := mr_X2_append) (as := [.int (120 : Int32)]) dX5_spellTerm_115 ml_X5_63 ok_X2_append okV_X2_append ⟨Nat.le_of_ble_eq_true rfl, Nat.le_of_ble_eq_true rfl⟩ h0.1 rfl rfl rfl (Nat.le_of_ble_eq_true rfl) t71 ?_
      refine V.pop dX5_spellTerm_118 rfl ?_
      refine V.iload_n dX5_spellTerm_119 rfl rfl ?_
      refine V.iconst (v := (2)) dX5_spellTerm_120 (by decide) ?_
      refine V.icmp_lt (tgt := 140) dX5_spellTerm_121 (by decide) (fun c73 => ?_) (fun c73 => ?_)
      · have H74 := H72.1 c73
        exact V.ret rfl (Or.inr (Or.inr (Or.inr ⟨rfl, dX5_spellTerm_140, rfl⟩))) ⟨Nat.le_refl _, Nat.le_refl _⟩ H74
      · have H75 := H72.2 c73
        refine V.aload_n dX5_spellTerm_124 rfl rfl ?_
        refine V.bipush (v := (94)) dX5_spellTerm_125 (by decide) ?_
        obtain ⟨r76, I77, L78, t79, H80⟩ := H75
        refine V.cVi (N := mr_X2_append) (as := [.int (94 : Int32)]) dX5_spellTerm_127 ml_X5_63 ok_X2_append okV_X2_append ⟨Nat.le_of_ble_eq_true rfl, Nat.le_of_ble_eq_true rfl⟩ h0.1 rfl rfl rfl (Nat.le_of_ble_eq_true rfl) t79 ?_
        refine V.pop dX5_spellTerm_130 rfl ?_
        refine V.aload_n dX5_spellTerm_131 rfl rfl ?_
        refine V.bipush (v := (48)) dX5_spellTerm_132 (by decide) ?_
        refine V.iload_n dX5_spellTerm_134 rfl rfl ?_
        refine V.iadd dX5_spellTerm_135 ?_
        obtain ⟨r81, I82, L83, t84, H85⟩ := H80
        refine V.cVi (N := mr_X2_append) (as := [.int ((48 : Int32) + x3)]) dX5_spellTerm_136 ml_X5_63 ok_X2_append okV_X2_append ⟨Nat.le_of_ble_eq_true rfl, Nat.le_of_ble_eq_true rfl⟩ h0.1 rfl rfl rfl (Nat.le_of_ble_eq_true rfl) t84 ?_
        refine V.pop dX5_spellTerm_139 rfl ?_
        exact V.ret rfl (Or.inr (Or.inr (Or.inr ⟨rfl, dX5_spellTerm_140, rfl⟩))) ⟨Nat.le_refl _, Nat.le_refl _⟩ H85
  · have H86 := H0.2 c50
    refine V.iload dX5_spellTerm_64 rfl ?_
    refine V.if_ne (tgt := 107) dX5_spellTerm_66 (by decide) (fun c87 => ?_) (fun c87 => ?_)
    · have H88 := H86.1 c87
      refine V.iload_n dX5_spellTerm_107 rfl rfl ?_
      refine V.iconst (v := (1)) dX5_spellTerm_108 (by decide) ?_
      refine V.icmp_lt (tgt := 119) dX5_spellTerm_109 (by decide) (fun c89 => ?_) (fun c89 => ?_)
      · have H90 := H88.1 c89
        refine V.iload_n dX5_spellTerm_119 rfl rfl ?_
        refine V.iconst (v := (2)) dX5_spellTerm_120 (by decide) ?_
        refine V.icmp_lt (tgt := 140) dX5_spellTerm_121 (by decide) (fun c91 => ?_) (fun c91 => ?_)
        · have H92 := H90.1 c91
          exact V.ret rfl (Or.inr (Or.inr (Or.inr ⟨rfl, dX5_spellTerm_140, rfl⟩))) ⟨Nat.le_refl _, Nat.le_refl _⟩ H92
        · have H93 := H90.2 c91
          refine V.aload_n dX5_spellTerm_124 rfl rfl ?_
          refine V.bipush (v := (94)) dX5_spellTerm_125 (by decide) ?_
          obtain ⟨r94, I95, L96, t97, H98⟩ := H93
          refine V.cVi (N := mr_X2_append) (as := [.int (94 : Int32)]) dX5_spellTerm_127 ml_X5_63 ok_X2_append okV_X2_append ⟨Nat.le_of_ble_eq_true rfl, Nat.le_of_ble_eq_true rfl⟩ h0.1 rfl rfl rfl (Nat.le_of_ble_eq_true rfl) t97 ?_
          refine V.pop dX5_spellTerm_130 rfl ?_
          refine V.aload_n dX5_spellTerm_131 rfl rfl ?_
          refine V.bipush (v := (48)) dX5_spellTerm_132 (by decide) ?_
          refine V.iload_n dX5_spellTerm_134 rfl rfl ?_
          refine V.iadd dX5_spellTerm_135 ?_
          obtain ⟨r99, I100, L101, t102, H103⟩ := H98
          refine V.cVi (N := mr_X2_append) (as := [.int ((48 : Int32) + x3)]) dX5_spellTerm_136 ml_X5_63 ok_X2_append okV_X2_append ⟨Nat.le_of_ble_eq_true rfl, Nat.le_of_ble_eq_true rfl⟩ h0.1 rfl rfl rfl (Nat.le_of_ble_eq_true rfl) t102 ?_
          refine V.pop dX5_spellTerm_139 rfl ?_
          exact V.ret rfl (Or.inr (Or.inr (Or.inr ⟨rfl, dX5_spellTerm_140, rfl⟩))) ⟨Nat.le_refl _, Nat.le_refl _⟩ H103
      · have H104 := H88.2 c89
        refine V.aload_n dX5_spellTerm_112 rfl rfl ?_
        refine V.bipush (v := (120)) dX5_spellTerm_113 (by decide) ?_
        obtain ⟨r105, I106, L107, t108, H109⟩ := H104
        refine V.cVi (N := mr_X2_append) (as := [.int (120 : Int32)]) dX5_spellTerm_115 ml_X5_63 ok_X2_append okV_X2_append ⟨Nat.le_of_ble_eq_true rfl, Nat.le_of_ble_eq_true rfl⟩ h0.1 rfl rfl rfl (Nat.le_of_ble_eq_true rfl) t108 ?_
        refine V.pop dX5_spellTerm_118 rfl ?_
        refine V.iload_n dX5_spellTerm_119 rfl rfl ?_
        refine V.iconst (v := (2)) dX5_spellTerm_120 (by decide) ?_
        refine V.icmp_lt (tgt := 140) dX5_spellTerm_121 (by decide) (fun c110 => ?_) (fun c110 => ?_)
        · have H111 := H109.1 c110
          exact V.ret rfl (Or.inr (Or.inr (Or.inr ⟨rfl, dX5_spellTerm_140, rfl⟩))) ⟨Nat.le_refl _, Nat.le_refl _⟩ H111
        · have H112 := H109.2 c110
          refine V.aload_n dX5_spellTerm_124 rfl rfl ?_
          refine V.bipush (v := (94)) dX5_spellTerm_125 (by decide) ?_
          obtain ⟨r113, I114, L115, t116, H117⟩ := H112
          refine V.cVi (N := mr_X2_append) (as := [.int (94 : Int32)]) dX5_spellTerm_127 ml_X5_63 ok_X2_append okV_X2_append ⟨Nat.le_of_ble_eq_true rfl, Nat.le_of_ble_eq_true rfl⟩ h0.1 rfl rfl rfl (Nat.le_of_ble_eq_true rfl) t116 ?_
          refine V.pop dX5_spellTerm_130 rfl ?_
          refine V.aload_n dX5_spellTerm_131 rfl rfl ?_
          refine V.bipush (v := (48)) dX5_spellTerm_132 (by decide) ?_
          refine V.iload_n dX5_spellTerm_134 rfl rfl ?_
          refine V.iadd dX5_spellTerm_135 ?_
          obtain ⟨r118, I119, L120, t121, H122⟩ := H117
          refine V.cVi (N := mr_X2_append) (as := [.int ((48 : Int32) + x3)]) dX5_spellTerm_136 ml_X5_63 ok_X2_append okV_X2_append ⟨Nat.le_of_ble_eq_true rfl, Nat.le_of_ble_eq_true rfl⟩ h0.1 rfl rfl rfl (Nat.le_of_ble_eq_true rfl) t121 ?_
          refine V.pop dX5_spellTerm_139 rfl ?_
          exact V.ret rfl (Or.inr (Or.inr (Or.inr ⟨rfl, dX5_spellTerm_140, rfl⟩))) ⟨Nat.le_refl _, Nat.le_refl _⟩ H122
    · have H123 := H86.2 c87
      refine V.lload dX5_spellTerm_69 rfl ?_
      refine V.iload dX5_spellTerm_71 rfl ?_
      refine V.i2l dX5_spellTerm_73 ?_
      refine V.lc_lt (tgt := 97) dX5_spellTerm_74 dX5_spellTerm_75 (by decide) (fun c124 => ?_) (fun c124 => ?_)
      · have H125 := H123.1 c124
        refine V.iload dX5_spellTerm_97 rfl ?_
        refine V.bipush (v := (10)) dX5_spellTerm_99 (by decide) ?_
        refine V.idiv dX5_spellTerm_101 (by decide) ?_
        refine V.topi (fun y126 e127 => ?_)
        have H128 := H125 y126 e127
        refine V.istore (lo' := [(7, .int y126), (0, .ref a0), (3, .int x3), (4, .long x4), (6, .int x6)]) dX5_spellTerm_102 (by decide) rfl ?_
        refine V.goto (tgt := 59) dX5_spellTerm_104 (by decide) ?_
        exact V.los [1, 2, 3, 4, 0] rfl H128
      · have H129 := H123.2 c124
        refine V.aload_n dX5_spellTerm_78 rfl rfl ?_
        refine V.bipush (v := (48)) dX5_spellTerm_79 (by decide) ?_
        refine V.lload dX5_spellTerm_81 rfl ?_
        refine V.iload dX5_spellTerm_83 rfl ?_
        refine V.i2l dX5_spellTerm_85 ?_
        obtain ⟨o130, H131⟩ := H129
        refine V.ldiv dX5_spellTerm_86 o130 ?_
        refine V.ldc2 kc_X5_67 dX5_spellTerm_87 ?_
        refine V.lrem dX5_spellTerm_90 (by decide) ?_
        refine V.l2i dX5_spellTerm_91 ?_
        refine V.iadd dX5_spellTerm_92 ?_
        obtain ⟨r132, I133, L134, t135, H136⟩ := H131
        refine V.cVi (N := mr_X2_append) (as := [.int ((48 : Int32) + ((x4 / x7.toInt64) - (x4 / x7.toInt64) / (10 : Int64) * (10 : Int64)).toInt32)]) dX5_spellTerm_93 ml_X5_63 ok_X2_append okV_X2_append ⟨Nat.le_of_ble_eq_true rfl, Nat.le_of_ble_eq_true rfl⟩ h0.1 rfl rfl rfl (Nat.le_of_ble_eq_true rfl) t135 ?_
        refine V.pop dX5_spellTerm_96 rfl ?_
        refine V.iload dX5_spellTerm_97 rfl ?_
        refine V.bipush (v := (10)) dX5_spellTerm_99 (by decide) ?_
        refine V.idiv dX5_spellTerm_101 (by decide) ?_
        refine V.topi (fun y137 e138 => ?_)
        have H139 := H136 y137 e138
        refine V.istore (lo' := [(7, .int y137), (0, .ref a0), (3, .int x3), (4, .long x4), (6, .int x6)]) dX5_spellTerm_102 (by decide) rfl ?_
        refine V.goto (tgt := 59) dX5_spellTerm_104 (by decide) ?_
        exact V.los [1, 2, 3, 4, 0] rfl H139
set_option maxRecDepth 100000 in
set_option maxHeartbeats 4000000 in
theorem wp_X5_spellTerm {S : List mjD} {RET : Option Value → mjH → Prop} {q : Nat} (hq : is_Line S q) {a : Int64} {b : Int32} {I : Nat → Nat → Int32} {L : Nat → Nat → Int64} (H0 : (((0 : Int64) ≤ a → (((I q 1) ≤ 0 → ∃ r5 I6 L7, CTl mr_J9_abs_067f4 [.long a] S I L r5 I6 L7 ∧ ((¬ r5 = (1 : Int64) → hd_X5_spellTerm_59 S RET q b r5 (0 : Int32) (100 : Int32) I6 L7) ∧ (r5 = (1 : Int64) → ((b < (1 : Int32) → hd_X5_spellTerm_59 S RET q b r5 (0 : Int32) (100 : Int32) I6 L7) ∧ (¬ b < (1 : Int32) → hd_X5_spellTerm_59 S RET q b r5 (1 : Int32) (100 : Int32) I6 L7))))) ∧ (¬ (I q 1) ≤ 0 → ∃ r17 I18 L19, CTi mr_X2_append [.ref q, .int (43 : Int32)] S I L r17 I18 L19 ∧ ∃ r22 I23 L24, CTl mr_J9_abs_067f4 [.long a] S I18 L19 r22 I23 L24 ∧ ((¬ r22 = (1 : Int64) → hd_X5_spellTerm_59 S RET q b r22 (0 : Int32) (100 : Int32) I23 L24) ∧ (r22 = (1 : Int64) → ((b < (1 : Int32) → hd_X5_spellTerm_59 S RET q b r22 (0 : Int32) (100 : Int32) I23 L24) ∧ (¬ b < (1 : Int32) → hd_X5_spellTerm_59 S RET q b r22 (1 : Int32) (100 : Int32) I23 L24))))))) ∧ (¬ (0 : Int64) ≤ a → ∃ r34 I35 L36, CTi mr_X2_append [.ref q, .int (45 : Int32)] S I L r34 I35 L36 ∧ ∃ r39 I40 L41, CTl mr_J9_abs_067f4 [.long a] S I35 L36 r39 I40 L41 ∧ ((¬ r39 = (1 : Int64) → hd_X5_spellTerm_59 S RET q b r39 (0 : Int32) (100 : Int32) I40 L41) ∧ (r39 = (1 : Int64) → ((b < (1 : Int32) → hd_X5_spellTerm_59 S RET q b r39 (0 : Int32) (100 : Int32) I40 L41) ∧ (¬ b < (1 : Int32) → hd_X5_spellTerm_59 S RET q b r39 (1 : Int32) (100 : Int32) I40 L41))))))) : CT mr_X5_spellTerm (0, 0) [.ref q, .long a, .int b] (S, I, L) RET := by
  refine CT.of (lo := [(0, .ref q), (1, .long a), (3, .int b)]) (by decide) (fun _ _ => Nat.le_of_ble_eq_true rfl) (fun _ _ => rfl) rfl ?_
  refine V.lload_n dX5_spellTerm_0 rfl rfl ?_
  refine V.lconst (v := 0) dX5_spellTerm_1 (by decide) ?_
  refine V.lc_ge (tgt := 16) dX5_spellTerm_2 dX5_spellTerm_3 (by decide) (fun c1 => ?_) (fun c1 => ?_)
  · have H2 := H0.1 c1
    refine V.aload_n dX5_spellTerm_16 rfl rfl ?_
    refine V.getf (v := .int (I q 1)) dX5_spellTerm_17 fl_X5_53 hq.1 (by decide) rfl ?_
    refine V.if_le (tgt := 30) dX5_spellTerm_20 (by decide) (fun c3 => ?_) (fun c3 => ?_)
    · have H4 := H2.1 c3
      refine V.lload_n dX5_spellTerm_30 rfl rfl ?_
      obtain ⟨r5, I6, L7, t8, H9⟩ := H4
      refine V.cSl (N := mr_J9_abs_067f4) (as := [.long a]) dX5_spellTerm_31 ml_X5_23 ok_J9_abs_067f4 okS_J9_abs_067f4 ⟨Nat.le_of_ble_eq_true rfl, Nat.le_of_ble_eq_true rfl⟩ rfl rfl (Nat.le_of_ble_eq_true rfl) t8 ?_
      refine V.lstore (lo' := [(4, .long r5), (0, .ref q), (1, .long a), (3, .int b)]) dX5_spellTerm_34 (by decide) rfl ?_
      refine V.lload dX5_spellTerm_36 rfl ?_
      refine V.lconst (v := 1) dX5_spellTerm_38 (by decide) ?_
      refine V.lc_ne (tgt := 52) dX5_spellTerm_39 dX5_spellTerm_40 (by decide) (fun c10 => ?_) (fun c10 => ?_)
      · have H11 := H9.1 c10
        refine V.iconst (v := (0)) dX5_spellTerm_52 (by decide) ?_
        refine V.istore (lo' := [(6, .int (0 : Int32)), (4, .long r5), (0, .ref q), (1, .long a), (3, .int b)]) dX5_spellTerm_53 (by decide) rfl ?_
        refine V.bipush (v := (100)) dX5_spellTerm_55 (by decide) ?_
        refine V.istore (lo' := [(7, .int (100 : Int32)), (6, .int (0 : Int32)), (4, .long r5), (0, .ref q), (1, .long a), (3, .int b)]) dX5_spellTerm_57 (by decide) rfl ?_
        exact V.los [3, 5, 2, 1, 0] rfl H11
      · have H12 := H9.2 c10
        refine V.iload_n dX5_spellTerm_43 rfl rfl ?_
        refine V.iconst (v := (1)) dX5_spellTerm_44 (by decide) ?_
        refine V.icmp_lt (tgt := 52) dX5_spellTerm_45 (by decide) (fun c13 => ?_) (fun c13 => ?_)
        · have H14 := H12.1 c13
          refine V.iconst (v := (0)) dX5_spellTerm_52 (by decide) ?_
          refine V.istore (lo' := [(6, .int (0 : Int32)), (4, .long r5), (0, .ref q), (1, .long a), (3, .int b)]) dX5_spellTerm_53 (by decide) rfl ?_
          refine V.bipush (v := (100)) dX5_spellTerm_55 (by decide) ?_
          refine V.istore (lo' := [(7, .int (100 : Int32)), (6, .int (0 : Int32)), (4, .long r5), (0, .ref q), (1, .long a), (3, .int b)]) dX5_spellTerm_57 (by decide) rfl ?_
          exact V.los [3, 5, 2, 1, 0] rfl H14
        · have H15 := H12.2 c13
          refine V.iconst (v := (1)) dX5_spellTerm_48 (by decide) ?_
          refine V.goto (tgt := 53) dX5_spellTerm_49 (by decide) ?_
          refine V.istore (lo' := [(6, .int (1 : Int32)), (4, .long r5), (0, .ref q), (1, .long a), (3, .int b)]) dX5_spellTerm_53 (by decide) rfl ?_
          refine V.bipush (v := (100)) dX5_spellTerm_55 (by decide) ?_
          refine V.istore (lo' := [(7, .int (100 : Int32)), (6, .int (1 : Int32)), (4, .long r5), (0, .ref q), (1, .long a), (3, .int b)]) dX5_spellTerm_57 (by decide) rfl ?_
          exact V.los [3, 5, 2, 1, 0] rfl H15
    · have H16 := H2.2 c3
      refine V.aload_n dX5_spellTerm_23 rfl rfl ?_
      refine V.bipush (v := (43)) dX5_spellTerm_24 (by decide) ?_
      obtain ⟨r17, I18, L19, t20, H21⟩ := H16
      refine V.cVi (N := mr_X2_append) (as := [.int (43 : Int32)]) dX5_spellTerm_26 ml_X5_63 ok_X2_append okV_X2_append ⟨Nat.le_of_ble_eq_true rfl, Nat.le_of_ble_eq_true rfl⟩ hq.1 rfl rfl rfl (Nat.le_of_ble_eq_true rfl) t20 ?_
      refine V.pop dX5_spellTerm_29 rfl ?_
      refine V.lload_n dX5_spellTerm_30 rfl rfl ?_
      obtain ⟨r22, I23, L24, t25, H26⟩ := H21
      refine V.cSl (N := mr_J9_abs_067f4) (as := [.long a]) dX5_spellTerm_31 ml_X5_23 ok_J9_abs_067f4 okS_J9_abs_067f4 ⟨Nat.le_of_ble_eq_true rfl, Nat.le_of_ble_eq_true rfl⟩ rfl rfl (Nat.le_of_ble_eq_true rfl) t25 ?_
      refine V.lstore (lo' := [(4, .long r22), (0, .ref q), (1, .long a), (3, .int b)]) dX5_spellTerm_34 (by decide) rfl ?_
      refine V.lload dX5_spellTerm_36 rfl ?_
      refine V.lconst (v := 1) dX5_spellTerm_38 (by decide) ?_
      refine V.lc_ne (tgt := 52) dX5_spellTerm_39 dX5_spellTerm_40 (by decide) (fun c27 => ?_) (fun c27 => ?_)
      · have H28 := H26.1 c27
        refine V.iconst (v := (0)) dX5_spellTerm_52 (by decide) ?_
        refine V.istore (lo' := [(6, .int (0 : Int32)), (4, .long r22), (0, .ref q), (1, .long a), (3, .int b)]) dX5_spellTerm_53 (by decide) rfl ?_
        refine V.bipush (v := (100)) dX5_spellTerm_55 (by decide) ?_
        refine V.istore (lo' := [(7, .int (100 : Int32)), (6, .int (0 : Int32)), (4, .long r22), (0, .ref q), (1, .long a), (3, .int b)]) dX5_spellTerm_57 (by decide) rfl ?_
        exact V.los [3, 5, 2, 1, 0] rfl H28
      · have H29 := H26.2 c27
        refine V.iload_n dX5_spellTerm_43 rfl rfl ?_
        refine V.iconst (v := (1)) dX5_spellTerm_44 (by decide) ?_
        refine V.icmp_lt (tgt := 52) dX5_spellTerm_45 (by decide) (fun c30 => ?_) (fun c30 => ?_)
        · have H31 := H29.1 c30
          refine V.iconst (v := (0)) dX5_spellTerm_52 (by decide) ?_
          refine V.istore (lo' := [(6, .int (0 : Int32)), (4, .long r22), (0, .ref q), (1, .long a), (3, .int b)]) dX5_spellTerm_53 (by decide) rfl ?_
          refine V.bipush (v := (100)) dX5_spellTerm_55 (by decide) ?_
          refine V.istore (lo' := [(7, .int (100 : Int32)), (6, .int (0 : Int32)), (4, .long r22), (0, .ref q), (1, .long a), (3, .int b)]) dX5_spellTerm_57 (by decide) rfl ?_
          exact V.los [3, 5, 2, 1, 0] rfl H31
        · have H32 := H29.2 c30
          refine V.iconst (v := (1)) dX5_spellTerm_48 (by decide) ?_
          refine V.goto (tgt := 53) dX5_spellTerm_49 (by decide) ?_
          refine V.istore (lo' := [(6, .int (1 : Int32)), (4, .long r22), (0, .ref q), (1, .long a), (3, .int b)]) dX5_spellTerm_53 (by decide) rfl ?_
          refine V.bipush (v := (100)) dX5_spellTerm_55 (by decide) ?_
          refine V.istore (lo' := [(7, .int (100 : Int32)), (6, .int (1 : Int32)), (4, .long r22), (0, .ref q), (1, .long a), (3, .int b)]) dX5_spellTerm_57 (by decide) rfl ?_
          exact V.los [3, 5, 2, 1, 0] rfl H32
  · have H33 := H0.2 c1
    refine V.aload_n dX5_spellTerm_6 rfl rfl ?_
    refine V.bipush (v := (45)) dX5_spellTerm_7 (by decide) ?_
    obtain ⟨r34, I35, L36, t37, H38⟩ := H33
    refine V.cVi (N := mr_X2_append) (as := [.int (45 : Int32)]) dX5_spellTerm_9 ml_X5_63 ok_X2_append okV_X2_append ⟨Nat.le_of_ble_eq_true rfl, Nat.le_of_ble_eq_true rfl⟩ hq.1 rfl rfl rfl (Nat.le_of_ble_eq_true rfl) t37 ?_
    refine V.pop dX5_spellTerm_12 rfl ?_
    refine V.goto (tgt := 30) dX5_spellTerm_13 (by decide) ?_
    refine V.lload_n dX5_spellTerm_30 rfl rfl ?_
    obtain ⟨r39, I40, L41, t42, H43⟩ := H38
    refine V.cSl (N := mr_J9_abs_067f4) (as := [.long a]) dX5_spellTerm_31 ml_X5_23 ok_J9_abs_067f4 okS_J9_abs_067f4 ⟨Nat.le_of_ble_eq_true rfl, Nat.le_of_ble_eq_true rfl⟩ rfl rfl (Nat.le_of_ble_eq_true rfl) t42 ?_
    refine V.lstore (lo' := [(4, .long r39), (0, .ref q), (1, .long a), (3, .int b)]) dX5_spellTerm_34 (by decide) rfl ?_
    refine V.lload dX5_spellTerm_36 rfl ?_
    refine V.lconst (v := 1) dX5_spellTerm_38 (by decide) ?_
    refine V.lc_ne (tgt := 52) dX5_spellTerm_39 dX5_spellTerm_40 (by decide) (fun c44 => ?_) (fun c44 => ?_)
    · have H45 := H43.1 c44
      refine V.iconst (v := (0)) dX5_spellTerm_52 (by decide) ?_
      refine V.istore (lo' := [(6, .int (0 : Int32)), (4, .long r39), (0, .ref q), (1, .long a), (3, .int b)]) dX5_spellTerm_53 (by decide) rfl ?_
      refine V.bipush (v := (100)) dX5_spellTerm_55 (by decide) ?_
      refine V.istore (lo' := [(7, .int (100 : Int32)), (6, .int (0 : Int32)), (4, .long r39), (0, .ref q), (1, .long a), (3, .int b)]) dX5_spellTerm_57 (by decide) rfl ?_
      exact V.los [3, 5, 2, 1, 0] rfl H45
    · have H46 := H43.2 c44
      refine V.iload_n dX5_spellTerm_43 rfl rfl ?_
      refine V.iconst (v := (1)) dX5_spellTerm_44 (by decide) ?_
      refine V.icmp_lt (tgt := 52) dX5_spellTerm_45 (by decide) (fun c47 => ?_) (fun c47 => ?_)
      · have H48 := H46.1 c47
        refine V.iconst (v := (0)) dX5_spellTerm_52 (by decide) ?_
        refine V.istore (lo' := [(6, .int (0 : Int32)), (4, .long r39), (0, .ref q), (1, .long a), (3, .int b)]) dX5_spellTerm_53 (by decide) rfl ?_
        refine V.bipush (v := (100)) dX5_spellTerm_55 (by decide) ?_
        refine V.istore (lo' := [(7, .int (100 : Int32)), (6, .int (0 : Int32)), (4, .long r39), (0, .ref q), (1, .long a), (3, .int b)]) dX5_spellTerm_57 (by decide) rfl ?_
        exact V.los [3, 5, 2, 1, 0] rfl H48
      · have H49 := H46.2 c47
        refine V.iconst (v := (1)) dX5_spellTerm_48 (by decide) ?_
        refine V.goto (tgt := 53) dX5_spellTerm_49 (by decide) ?_
        refine V.istore (lo' := [(6, .int (1 : Int32)), (4, .long r39), (0, .ref q), (1, .long a), (3, .int b)]) dX5_spellTerm_53 (by decide) rfl ?_
        refine V.bipush (v := (100)) dX5_spellTerm_55 (by decide) ?_
        refine V.istore (lo' := [(7, .int (100 : Int32)), (6, .int (1 : Int32)), (4, .long r39), (0, .ref q), (1, .long a), (3, .int b)]) dX5_spellTerm_57 (by decide) rfl ?_
        exact V.los [3, 5, 2, 1, 0] rfl H49
set_option maxRecDepth 100000 in
set_option maxHeartbeats 4000000 in
theorem wp_X5_isSame {S : List mjD} {RET : Option Value → mjH → Prop} {p : Nat} (hp : is_Poly S p) {q : Nat} (hq : is_Poly S q) {I : Nat → Nat → Int32} {L : Nat → Nat → Int64} (H0 : ∃ r1 I2 L3, CTi mr_X5_order [.ref p, .ref q] S I L r1 I2 L3 ∧ ((¬ r1 = 0 → RET (some (.int (0 : Int32))) (S, I2, L3)) ∧ (r1 = 0 → RET (some (.int (1 : Int32))) (S, I2, L3)))) : CT mr_X5_isSame (0, 0) [.ref p, .ref q] (S, I, L) RET := by
  refine CT.of (lo := [(0, .ref p), (1, .ref q)]) (by decide) (fun _ _ => Nat.le_of_ble_eq_true rfl) (fun _ _ => rfl) rfl ?_
  refine V.aload_n dX5_isSame_0 rfl rfl ?_
  refine V.aload_n dX5_isSame_1 rfl rfl ?_
  obtain ⟨r1, I2, L3, t4, H5⟩ := H0
  refine V.cVi (N := mr_X5_order) (as := [.ref q]) dX5_isSame_2 ml_X5_49 ok_X5_order okV_X5_order ⟨Nat.le_of_ble_eq_true rfl, Nat.le_of_ble_eq_true rfl⟩ hp.1 rfl rfl rfl (Nat.le_of_ble_eq_true rfl) t4 ?_
  refine V.if_ne (tgt := 12) dX5_isSame_5 (by decide) (fun c6 => ?_) (fun c6 => ?_)
  · have H7 := H5.1 c6
    refine V.iconst (v := (0)) dX5_isSame_12 (by decide) ?_
    exact V.ret (v := some (.int (0 : Int32))) rfl (Or.inl ⟨_, rfl, dX5_isSame_13, _, rfl, (by decide)⟩) ⟨Nat.le_refl _, Nat.le_refl _⟩ H7
  · have H8 := H5.2 c6
    refine V.iconst (v := (1)) dX5_isSame_8 (by decide) ?_
    refine V.goto (tgt := 13) dX5_isSame_9 (by decide) ?_
    exact V.ret (v := some (.int (1 : Int32))) rfl (Or.inl ⟨_, rfl, dX5_isSame_13, _, rfl, (by decide)⟩) ⟨Nat.le_refl _, Nat.le_refl _⟩ H8
set_option maxRecDepth 100000 in
set_option maxHeartbeats 4000000 in
theorem wp_X5_setQuadratic {S : List mjD} {RET : Option Value → mjH → Prop} {p : Nat} (hp : is_Poly S p) {a : Int64} {b : Int64} {c : Int64} {I : Nat → Nat → Int32} {L : Nat → Nat → Int64} (H0 : ∃ I2 L3, CTv mr_X5_setConstant [.ref p, .long c] S I L I2 L3 ∧ RET none (S, I2, mj_up (mj_up L3 (p + 1) (1 : Int32).toNatClampNeg b) (p + 1) (2 : Int32).toNatClampNeg a)) : CT mr_X5_setQuadratic (0, 0) [.ref p, .long a, .long b, .long c] (S, I, L) RET := by
  refine CT.of (lo := [(0, .ref p), (1, .long a), (3, .long b), (5, .long c)]) (by decide) (fun _ _ => Nat.le_of_ble_eq_true rfl) (fun _ _ => rfl) rfl ?_
  refine V.aload_n dX5_setQuadratic_0 rfl rfl ?_
  refine V.lload dX5_setQuadratic_1 rfl ?_
  obtain ⟨I2, L3, t4, H5⟩ := H0
  refine V.cVv (N := mr_X5_setConstant) (as := [.long c]) dX5_setQuadratic_3 ml_X5_15 ok_X5_setConstant okV_X5_setConstant ⟨Nat.le_of_ble_eq_true rfl, Nat.le_of_ble_eq_true rfl⟩ hp.1 rfl rfl rfl (Nat.le_of_ble_eq_true rfl) t4 ?_
  refine V.aload_n dX5_setQuadratic_6 rfl rfl ?_
  refine V.getf (v := .ref (p + 1)) dX5_setQuadratic_7 fl_X5_11 hp.1 (by decide) rfl ?_
  refine V.iconst (v := (1)) dX5_setQuadratic_10 (by decide) ?_
  refine V.lload_n dX5_setQuadratic_11 rfl rfl ?_
  refine V.last dX5_setQuadratic_12 hp.2 (mj_lit (by decide)) ?_
  refine V.aload_n dX5_setQuadratic_13 rfl rfl ?_
  refine V.getf (v := .ref (p + 1)) dX5_setQuadratic_14 fl_X5_11 hp.1 (by decide) rfl ?_
  refine V.iconst (v := (2)) dX5_setQuadratic_17 (by decide) ?_
  refine V.lload_n dX5_setQuadratic_18 rfl rfl ?_
  refine V.last dX5_setQuadratic_19 hp.2 (mj_lit (by decide)) ?_
  exact V.ret rfl (Or.inr (Or.inr (Or.inr ⟨rfl, dX5_setQuadratic_20, rfl⟩))) ⟨Nat.le_refl _, Nat.le_refl _⟩ H5
def hd_X5_shiftFrom_7 (S : List mjD) (RET : Option Value → mjH → Prop) (a0 : Nat) (a1 : Nat) (x2 : Int32) (x3 : Int32) (I : Nat → Nat → Int32) (L : Nat → Nat → Int64) : Prop := V mr_X5_shiftFrom (0, 0) RET 7 [(0, .ref a0), (1, .ref a1), (2, .int x2), (3, .int x3)] [] (S, I, L) (0, 0)
def hd_X5_shiftFrom_14 (S : List mjD) (RET : Option Value → mjH → Prop) (a0 : Nat) (a1 : Nat) (x2 : Int32) (x3 : Int32) (x4 : Int32) (I : Nat → Nat → Int32) (L : Nat → Nat → Int64) : Prop := V mr_X5_shiftFrom (0, 0) RET 14 [(0, .ref a0), (1, .ref a1), (2, .int x2), (3, .int x3), (4, .int x4)] [] (S, I, L) (0, 0)
set_option maxRecDepth 100000 in
set_option maxHeartbeats 4000000 in
theorem it_X5_shiftFrom_7 {S : List mjD} {RET : Option Value → mjH → Prop} {a0 : Nat} (h0 : is_Poly S a0) {a1 : Nat} (h1 : is_Poly S a1) {x2 : Int32} {x3 : Int32} {I : Nat → Nat → Int32} {L : Nat → Nat → Int64} (H0 : ((x3 < 0 → RET none (S, I, L)) ∧ (¬ x3 < 0 → hd_X5_shiftFrom_14 S RET a0 a1 x2 x3 (5 : Int32) I L))) : hd_X5_shiftFrom_7 S RET a0 a1 x2 x3 I L := by
  unfold hd_X5_shiftFrom_7
  refine V.iload_n dX5_shiftFrom_7 rfl rfl ?_
  refine V.if_lt (tgt := 72) dX5_shiftFrom_8 (by decide) (fun c6 => ?_) (fun c6 => ?_)
  · have H7 := H0.1 c6
    exact V.ret rfl (Or.inr (Or.inr (Or.inr ⟨rfl, dX5_shiftFrom_72, rfl⟩))) ⟨Nat.le_refl _, Nat.le_refl _⟩ H7
  · have H8 := H0.2 c6
    refine V.iconst (v := (5)) dX5_shiftFrom_11 (by decide) ?_
    refine V.istore (lo' := [(4, .int (5 : Int32)), (0, .ref a0), (1, .ref a1), (2, .int x2), (3, .int x3)]) dX5_shiftFrom_12 (by decide) rfl ?_
    exact V.los [1, 2, 3, 4, 0] rfl H8
set_option maxRecDepth 100000 in
set_option maxHeartbeats 4000000 in
theorem it_X5_shiftFrom_14 {S : List mjD} {RET : Option Value → mjH → Prop} {a0 : Nat} (h0 : is_Poly S a0) {a1 : Nat} (h1 : is_Poly S a1) {x2 : Int32} {x3 : Int32} {x4 : Int32} {I : Nat → Nat → Int32} {L : Nat → Nat → Int64} (H0 : ((x4 < 0 → (vp_in x3 6) ∧ ∀ y13 : Int32, y13 = x3 + (-1) → hd_X5_shiftFrom_7 S RET a0 a1 x2 y13 I (mj_up L (a0 + 1) (0 : Int32).toNatClampNeg ((L (a0 + 1) (0 : Int32).toNatClampNeg) + (L (a1 + 1) x3.toNatClampNeg)))) ∧ (¬ x4 < 0 → (vp_in x4 6) ∧ ∃ r19 I20 L21, CTl mr_X5_at [.ref a0, .int (x4 - (1 : Int32))] S I L r19 I20 L21 ∧ (vp_in x4 6) ∧ ∀ y26 : Int32, y26 = x4 + (-1) → hd_X5_shiftFrom_14 S RET a0 a1 x2 x3 y26 I20 (mj_up L21 (a0 + 1) x4.toNatClampNeg ((x2.toInt64 * (L (a0 + 1) x4.toNatClampNeg)) + r19))))) : hd_X5_shiftFrom_14 S RET a0 a1 x2 x3 x4 I L := by
  unfold hd_X5_shiftFrom_14
  refine V.iload dX5_shiftFrom_14 rfl ?_
  refine V.if_lt (tgt := 51) dX5_shiftFrom_16 (by decide) (fun c9 => ?_) (fun c9 => ?_)
  · have H10 := H0.1 c9
    refine V.aload_n dX5_shiftFrom_51 rfl rfl ?_
    refine V.getf (v := .ref (a0 + 1)) dX5_shiftFrom_52 fl_X5_11 h0.1 (by decide) rfl ?_
    refine V.iconst (v := (0)) dX5_shiftFrom_55 (by decide) ?_
    refine V.dup2 dX5_shiftFrom_56 rfl rfl ?_
    refine V.lald dX5_shiftFrom_57 h0.2 (mj_lit (by decide)) ?_
    refine V.aload_n dX5_shiftFrom_58 rfl rfl ?_
    refine V.getf (v := .ref (a1 + 1)) dX5_shiftFrom_59 fl_X5_11 h1.1 (by decide) rfl ?_
    refine V.iload_n dX5_shiftFrom_62 rfl rfl ?_
    obtain ⟨o11, H12⟩ := H10
    refine V.lald dX5_shiftFrom_63 h1.2 o11 ?_
    refine V.ladd dX5_shiftFrom_64 ?_
    refine V.last dX5_shiftFrom_65 h0.2 (mj_lit (by decide)) ?_
    obtain ⟨y13, e14⟩ : ∃ y : Int32, y = x3 + (-1) := ⟨_, rfl⟩
    have H15 := H12 y13 e14
    refine V.iinc (v := y13) (lo' := [(3, .int y13), (0, .ref a0), (1, .ref a1), (2, .int x2), (4, .int x4)]) dX5_shiftFrom_66 rfl (by rw [e14]; rfl) (by decide) rfl ?_
    refine V.goto (tgt := 7) dX5_shiftFrom_69 (by decide) ?_
    exact V.los [1, 2, 3, 0] rfl H15
  · have H16 := H0.2 c9
    refine V.aload_n dX5_shiftFrom_19 rfl rfl ?_
    refine V.getf (v := .ref (a0 + 1)) dX5_shiftFrom_20 fl_X5_11 h0.1 (by decide) rfl ?_
    refine V.iload dX5_shiftFrom_23 rfl ?_
    refine V.iload_n dX5_shiftFrom_25 rfl rfl ?_
    refine V.i2l dX5_shiftFrom_26 ?_
    refine V.aload_n dX5_shiftFrom_27 rfl rfl ?_
    refine V.getf (v := .ref (a0 + 1)) dX5_shiftFrom_28 fl_X5_11 h0.1 (by decide) rfl ?_
    refine V.iload dX5_shiftFrom_31 rfl ?_
    obtain ⟨o17, H18⟩ := H16
    refine V.lald dX5_shiftFrom_33 h0.2 o17 ?_
    refine V.lmul dX5_shiftFrom_34 ?_
    refine V.aload_n dX5_shiftFrom_35 rfl rfl ?_
    refine V.iload dX5_shiftFrom_36 rfl ?_
    refine V.iconst (v := (1)) dX5_shiftFrom_38 (by decide) ?_
    refine V.isub dX5_shiftFrom_39 ?_
    obtain ⟨r19, I20, L21, t22, H23⟩ := H18
    refine V.cVl (N := mr_X5_at) (as := [.int (x4 - (1 : Int32))]) dX5_shiftFrom_40 ml_X5_37 ok_X5_at okV_X5_at ⟨Nat.le_of_ble_eq_true rfl, Nat.le_of_ble_eq_true rfl⟩ h0.1 rfl rfl rfl (Nat.le_of_ble_eq_true rfl) t22 ?_
    refine V.ladd dX5_shiftFrom_43 ?_
    obtain ⟨o24, H25⟩ := H23
    refine V.last dX5_shiftFrom_44 h0.2 o24 ?_
    obtain ⟨y26, e27⟩ : ∃ y : Int32, y = x4 + (-1) := ⟨_, rfl⟩
    have H28 := H25 y26 e27
    refine V.iinc (v := y26) (lo' := [(4, .int y26), (0, .ref a0), (1, .ref a1), (2, .int x2), (3, .int x3)]) dX5_shiftFrom_45 rfl (by rw [e27]; rfl) (by decide) rfl ?_
    refine V.goto (tgt := 14) dX5_shiftFrom_48 (by decide) ?_
    exact V.los [1, 2, 3, 4, 0] rfl H28
set_option maxRecDepth 100000 in
set_option maxHeartbeats 4000000 in
theorem wp_X5_shiftFrom {S : List mjD} {RET : Option Value → mjH → Prop} {p : Nat} (hp : is_Poly S p) {q : Nat} (hq : is_Poly S q) {a : Int32} {I : Nat → Nat → Int32} {L : Nat → Nat → Int64} (H0 : ∃ I2 L3, CTv mr_X5_setConstant [.ref p, .long (0 : Int64)] S I L I2 L3 ∧ hd_X5_shiftFrom_7 S RET p q a (5 : Int32) I2 L3) : CT mr_X5_shiftFrom (0, 0) [.ref p, .ref q, .int a] (S, I, L) RET := by
  refine CT.of (lo := [(0, .ref p), (1, .ref q), (2, .int a)]) (by decide) (fun _ _ => Nat.le_of_ble_eq_true rfl) (fun _ _ => rfl) rfl ?_
  refine V.aload_n dX5_shiftFrom_0 rfl rfl ?_
  refine V.lconst (v := 0) dX5_shiftFrom_1 (by decide) ?_
  obtain ⟨I2, L3, t4, H5⟩ := H0
  refine V.cVv (N := mr_X5_setConstant) (as := [.long (0 : Int64)]) dX5_shiftFrom_2 ml_X5_15 ok_X5_setConstant okV_X5_setConstant ⟨Nat.le_of_ble_eq_true rfl, Nat.le_of_ble_eq_true rfl⟩ hp.1 rfl rfl rfl (Nat.le_of_ble_eq_true rfl) t4 ?_
  refine V.iconst (v := (5)) dX5_shiftFrom_5 (by decide) ?_
  refine V.istore_n (lo' := [(3, .int (5 : Int32)), (0, .ref p), (1, .ref q), (2, .int a)]) dX5_shiftFrom_6 rfl (by decide) rfl ?_
  exact V.los [1, 2, 3, 0] rfl H5
def hd_X4_divide_59 (S : List mjD) (RET : Option Value → mjH → Prop) (a0 : Nat) (x1 : Int32) (x2 : Int32) (x3 : Int32) (x4 : Int32) (I : Nat → Nat → Int32) (L : Nat → Nat → Int64) : Prop := V mr_X4_divide (0, 0) RET 59 [(0, .ref a0), (1, .int x1), (2, .int x2), (3, .int x3), (4, .int x4)] [] (S, I, L) (0, 0)
def hd_X4_divide_121 (S : List mjD) (RET : Option Value → mjH → Prop) (a0 : Nat) (x1 : Int32) (x4 : Int32) (I : Nat → Nat → Int32) (L : Nat → Nat → Int64) : Prop := V mr_X4_divide (0, 0) RET 121 [(0, .ref a0), (1, .int x1), (4, .int x4)] [] (S, I, L) (0, 0)
def hd_X4_divide_150 (S : List mjD) (RET : Option Value → mjH → Prop) (a0 : Nat) (x1 : Int32) (x4 : Int32) (I : Nat → Nat → Int32) (L : Nat → Nat → Int64) : Prop := V mr_X4_divide (0, 0) RET 150 [(0, .ref a0), (1, .int x1), (4, .int x4)] [] (S, I, L) (0, 0)
set_option maxRecDepth 100000 in
set_option maxHeartbeats 4000000 in
theorem it_X4_divide_59 {S : List mjD} {RET : Option Value → mjH → Prop} {a0 : Nat} (h0 : is_Parts S a0) {x1 : Int32} {x2 : Int32} {x3 : Int32} {x4 : Int32} {I : Nat → Nat → Int32} {L : Nat → Nat → Int64} (H0 : ((x4 < 0 → hd_X4_divide_121 S RET a0 x1 (0 : Int32) I L) ∧ (¬ x4 < 0 → (vp_in x4 8) ∧ (vp_in (x4 + (1 : Int32)) 8) ∧ (vp_in (x4 + (2 : Int32)) 8) ∧ ∃ r26 I27 L28, CTl mr_J9_floorMod_f86c9 [.long (((L (a0 + 1) x4.toNatClampNeg) - (x2.toInt64 * (L (a0 + 2) (x4 + (1 : Int32)).toNatClampNeg))) - (x3.toInt64 * (L (a0 + 2) (x4 + (2 : Int32)).toNatClampNeg))), .long ((I a0 4).toInt64)] S I L r26 I27 L28 ∧ (vp_in x4 8) ∧ ∀ y33 : Int32, y33 = x4 + (-1) → hd_X4_divide_59 S RET a0 x1 x2 x3 y33 I27 (mj_up L28 (a0 + 2) x4.toNatClampNeg r26)))) : hd_X4_divide_59 S RET a0 x1 x2 x3 x4 I L := by
  unfold hd_X4_divide_59
  refine V.iload dX4_divide_59 rfl ?_
  refine V.if_lt (tgt := 118) dX4_divide_61 (by decide) (fun c17 => ?_) (fun c17 => ?_)
  · have H18 := H0.1 c17
    refine V.iconst (v := (0)) dX4_divide_118 (by decide) ?_
    refine V.istore (lo' := [(4, .int (0 : Int32)), (0, .ref a0), (1, .int x1), (2, .int x2), (3, .int x3)]) dX4_divide_119 (by decide) rfl ?_
    exact V.los [1, 2, 0] rfl H18
  · have H19 := H0.2 c17
    refine V.aload_n dX4_divide_64 rfl rfl ?_
    refine V.getf (v := .ref (a0 + 2)) dX4_divide_65 fl_X4_15 h0.1 (by decide) rfl ?_
    refine V.iload dX4_divide_68 rfl ?_
    refine V.aload_n dX4_divide_70 rfl rfl ?_
    refine V.getf (v := .ref (a0 + 1)) dX4_divide_71 fl_X4_11 h0.1 (by decide) rfl ?_
    refine V.iload dX4_divide_74 rfl ?_
    obtain ⟨o20, H21⟩ := H19
    refine V.lald dX4_divide_76 h0.2.1 o20 ?_
    refine V.iload_n dX4_divide_77 rfl rfl ?_
    refine V.i2l dX4_divide_78 ?_
    refine V.aload_n dX4_divide_79 rfl rfl ?_
    refine V.getf (v := .ref (a0 + 2)) dX4_divide_80 fl_X4_15 h0.1 (by decide) rfl ?_
    refine V.iload dX4_divide_83 rfl ?_
    refine V.iconst (v := (1)) dX4_divide_85 (by decide) ?_
    refine V.iadd dX4_divide_86 ?_
    obtain ⟨o22, H23⟩ := H21
    refine V.lald dX4_divide_87 h0.2.2.1 o22 ?_
    refine V.lmul dX4_divide_88 ?_
    refine V.lsub dX4_divide_89 ?_
    refine V.iload_n dX4_divide_90 rfl rfl ?_
    refine V.i2l dX4_divide_91 ?_
    refine V.aload_n dX4_divide_92 rfl rfl ?_
    refine V.getf (v := .ref (a0 + 2)) dX4_divide_93 fl_X4_15 h0.1 (by decide) rfl ?_
    refine V.iload dX4_divide_96 rfl ?_
    refine V.iconst (v := (2)) dX4_divide_98 (by decide) ?_
    refine V.iadd dX4_divide_99 ?_
    obtain ⟨o24, H25⟩ := H23
    refine V.lald dX4_divide_100 h0.2.2.1 o24 ?_
    refine V.lmul dX4_divide_101 ?_
    refine V.lsub dX4_divide_102 ?_
    refine V.aload_n dX4_divide_103 rfl rfl ?_
    refine V.getf (v := .int (I a0 4)) dX4_divide_104 fl_X4_32 h0.1 (by decide) rfl ?_
    refine V.i2l dX4_divide_107 ?_
    obtain ⟨r26, I27, L28, t29, H30⟩ := H25
    refine V.cSl (N := mr_J9_floorMod_f86c9) (as := [.long (((L (a0 + 1) x4.toNatClampNeg) - (x2.toInt64 * (L (a0 + 2) (x4 + (1 : Int32)).toNatClampNeg))) - (x3.toInt64 * (L (a0 + 2) (x4 + (2 : Int32)).toNatClampNeg))), .long ((I a0 4).toInt64)]) dX4_divide_108 ml_X4_39 ok_J9_floorMod_f86c9 okS_J9_floorMod_f86c9 ⟨Nat.le_of_ble_eq_true rfl, Nat.le_of_ble_eq_true rfl⟩ rfl rfl (Nat.le_of_ble_eq_true rfl) t29 ?_
    obtain ⟨o31, H32⟩ := H30
    refine V.last dX4_divide_111 h0.2.2.1 o31 ?_
    obtain ⟨y33, e34⟩ : ∃ y : Int32, y = x4 + (-1) := ⟨_, rfl⟩
    have H35 := H32 y33 e34
    refine V.iinc (v := y33) (lo' := [(4, .int y33), (0, .ref a0), (1, .int x1), (2, .int x2), (3, .int x3)]) dX4_divide_112 rfl (by rw [e34]; rfl) (by decide) rfl ?_
    refine V.goto (tgt := 59) dX4_divide_115 (by decide) ?_
    exact V.los [1, 2, 3, 4, 0] rfl H35
set_option maxRecDepth 100000 in
set_option maxHeartbeats 4000000 in
theorem it_X4_divide_121 {S : List mjD} {RET : Option Value → mjH → Prop} {a0 : Nat} (h0 : is_Parts S a0) {x1 : Int32} {x4 : Int32} {I : Nat → Nat → Int32} {L : Nat → Nat → Int64} (H0 : ((x1 ≤ x4 → hd_X4_divide_150 S RET a0 x1 (0 : Int32) I L) ∧ (¬ x1 ≤ x4 → (vp_in x4 8) ∧ (((L (a0 + 2) x4.toNatClampNeg) = (0 : Int64) → ∀ y43 : Int32, y43 = x4 + 1 → hd_X4_divide_121 S RET a0 x1 y43 I L) ∧ (¬ (L (a0 + 2) x4.toNatClampNeg) = (0 : Int64) → RET (some (.int (0 : Int32))) (S, I, L)))))) : hd_X4_divide_121 S RET a0 x1 x4 I L := by
  unfold hd_X4_divide_121
  refine V.iload dX4_divide_121 rfl ?_
  refine V.iload_n dX4_divide_123 rfl rfl ?_
  refine V.icmp_ge (tgt := 147) dX4_divide_124 (by decide) (fun c36 => ?_) (fun c36 => ?_)
  · have H37 := H0.1 c36
    refine V.iconst (v := (0)) dX4_divide_147 (by decide) ?_
    refine V.istore (lo' := [(4, .int (0 : Int32)), (0, .ref a0), (1, .int x1)]) dX4_divide_148 (by decide) rfl ?_
    exact V.los [1, 2, 0] rfl H37
  · have H38 := H0.2 c36
    refine V.aload_n dX4_divide_127 rfl rfl ?_
    refine V.getf (v := .ref (a0 + 2)) dX4_divide_128 fl_X4_15 h0.1 (by decide) rfl ?_
    refine V.iload dX4_divide_131 rfl ?_
    obtain ⟨o39, H40⟩ := H38
    refine V.lald dX4_divide_133 h0.2.2.1 o39 ?_
    refine V.lconst (v := 0) dX4_divide_134 (by decide) ?_
    refine V.lc_eq (tgt := 141) dX4_divide_135 dX4_divide_136 (by decide) (fun c41 => ?_) (fun c41 => ?_)
    · have H42 := H40.1 c41
      obtain ⟨y43, e44⟩ : ∃ y : Int32, y = x4 + 1 := ⟨_, rfl⟩
      have H45 := H42 y43 e44
      refine V.iinc (v := y43) (lo' := [(4, .int y43), (0, .ref a0), (1, .int x1)]) dX4_divide_141 rfl (by rw [e44]; rfl) (by decide) rfl ?_
      refine V.goto (tgt := 121) dX4_divide_144 (by decide) ?_
      exact V.los [1, 2, 0] rfl H45
    · have H46 := H40.2 c41
      refine V.iconst (v := (0)) dX4_divide_139 (by decide) ?_
      exact V.ret (v := some (.int (0 : Int32))) rfl (Or.inl ⟨_, rfl, dX4_divide_140, _, rfl, (by decide)⟩) ⟨Nat.le_refl _, Nat.le_refl _⟩ H46
set_option maxRecDepth 100000 in
set_option maxHeartbeats 4000000 in
theorem it_X4_divide_150 {S : List mjD} {RET : Option Value → mjH → Prop} {a0 : Nat} (h0 : is_Parts S a0) {x1 : Int32} {x4 : Int32} {I : Nat → Nat → Int32} {L : Nat → Nat → Int64} (H0 : (((I a0 3) < (x4 + x1) → RET (some (.int (1 : Int32))) (S, mj_up I a0 3 ((I a0 3) - x1), L)) ∧ (¬ (I a0 3) < (x4 + x1) → (vp_in (x4 + x1) 8) ∧ (vp_in x4 8) ∧ ∀ y54 : Int32, y54 = x4 + 1 → hd_X4_divide_150 S RET a0 x1 y54 I (mj_up L (a0 + 1) x4.toNatClampNeg (L (a0 + 2) (x4 + x1).toNatClampNeg))))) : hd_X4_divide_150 S RET a0 x1 x4 I L := by
  unfold hd_X4_divide_150
  refine V.iload dX4_divide_150 rfl ?_
  refine V.iload_n dX4_divide_152 rfl rfl ?_
  refine V.iadd dX4_divide_153 ?_
  refine V.aload_n dX4_divide_154 rfl rfl ?_
  refine V.getf (v := .int (I a0 3)) dX4_divide_155 fl_X4_28 h0.1 (by decide) rfl ?_
  refine V.icmp_gt (tgt := 183) dX4_divide_158 (by decide) (fun c47 => ?_) (fun c47 => ?_)
  · have H48 := H0.1 c47
    refine V.aload_n dX4_divide_183 rfl rfl ?_
    refine V.dup dX4_divide_184 rfl ?_
    refine V.getf (v := .int (I a0 3)) dX4_divide_185 fl_X4_28 h0.1 (by decide) rfl ?_
    refine V.iload_n dX4_divide_188 rfl rfl ?_
    refine V.isub dX4_divide_189 ?_
    refine V.puti dX4_divide_190 fl_X4_28 fp_X4_28 (Or.inl rfl) h0.1 (by decide) rfl rfl ?_
    refine V.iconst (v := (1)) dX4_divide_193 (by decide) ?_
    exact V.ret (v := some (.int (1 : Int32))) rfl (Or.inl ⟨_, rfl, dX4_divide_194, _, rfl, (by decide)⟩) ⟨Nat.le_refl _, Nat.le_refl _⟩ H48
  · have H49 := H0.2 c47
    refine V.aload_n dX4_divide_161 rfl rfl ?_
    refine V.getf (v := .ref (a0 + 1)) dX4_divide_162 fl_X4_11 h0.1 (by decide) rfl ?_
    refine V.iload dX4_divide_165 rfl ?_
    refine V.aload_n dX4_divide_167 rfl rfl ?_
    refine V.getf (v := .ref (a0 + 2)) dX4_divide_168 fl_X4_15 h0.1 (by decide) rfl ?_
    refine V.iload dX4_divide_171 rfl ?_
    refine V.iload_n dX4_divide_173 rfl rfl ?_
    refine V.iadd dX4_divide_174 ?_
    obtain ⟨o50, H51⟩ := H49
    refine V.lald dX4_divide_175 h0.2.2.1 o50 ?_
    obtain ⟨o52, H53⟩ := H51
    refine V.last dX4_divide_176 h0.2.1 o52 ?_
    obtain ⟨y54, e55⟩ : ∃ y : Int32, y = x4 + 1 := ⟨_, rfl⟩
    have H56 := H53 y54 e55
    refine V.iinc (v := y54) (lo' := [(4, .int y54), (0, .ref a0), (1, .int x1)]) dX4_divide_177 rfl (by rw [e55]; rfl) (by decide) rfl ?_
    refine V.goto (tgt := 150) dX4_divide_180 (by decide) ?_
    exact V.los [1, 2, 0] rfl H56
set_option maxRecDepth 100000 in
set_option maxHeartbeats 4000000 in
theorem wp_X4_divide {S : List mjD} {RET : Option Value → mjH → Prop} {p : Nat} (hp : is_Parts S p) {a : Int32} {b : Int32} {c : Int32} {I : Nat → Nat → Int32} {L : Nat → Nat → Int64} (H0 : (((I p 3) < a → RET (some (.int (0 : Int32))) (S, I, L)) ∧ (¬ (I p 3) < a → (((8 : Int32) ≤ ((I p 3) + (2 : Int32)) → RET (some (.int (0 : Int32))) (S, I, L)) ∧ (¬ (8 : Int32) ≤ ((I p 3) + (2 : Int32)) → (((2 : Int32) ≤ (I p 4) → (vp_in ((I p 3) + (1 : Int32)) 8) ∧ (vp_in ((I p 3) + (2 : Int32)) 8) ∧ ∀ y13 : Int32, y13 = (I p 3) → hd_X4_divide_59 S RET p a b c y13 I (mj_up (mj_up L (p + 2) ((I p 3) + (1 : Int32)).toNatClampNeg (0 : Int64)) (p + 2) ((I p 3) + (2 : Int32)).toNatClampNeg (0 : Int64))) ∧ (¬ (2 : Int32) ≤ (I p 4) → RET (some (.int (0 : Int32))) (S, I, L)))))))) : CT mr_X4_divide (0, 0) [.ref p, .int a, .int b, .int c] (S, I, L) RET := by
  refine CT.of (lo := [(0, .ref p), (1, .int a), (2, .int b), (3, .int c)]) (by decide) (fun _ _ => Nat.le_of_ble_eq_true rfl) (fun _ _ => rfl) rfl ?_
  refine V.aload_n dX4_divide_0 rfl rfl ?_
  refine V.getf (v := .int (I p 3)) dX4_divide_1 fl_X4_28 hp.1 (by decide) rfl ?_
  refine V.iload_n dX4_divide_4 rfl rfl ?_
  refine V.icmp_lt (tgt := 27) dX4_divide_5 (by decide) (fun c1 => ?_) (fun c1 => ?_)
  · have H2 := H0.1 c1
    refine V.iconst (v := (0)) dX4_divide_27 (by decide) ?_
    exact V.ret (v := some (.int (0 : Int32))) rfl (Or.inl ⟨_, rfl, dX4_divide_28, _, rfl, (by decide)⟩) ⟨Nat.le_refl _, Nat.le_refl _⟩ H2
  · have H3 := H0.2 c1
    refine V.aload_n dX4_divide_8 rfl rfl ?_
    refine V.getf (v := .int (I p 3)) dX4_divide_9 fl_X4_28 hp.1 (by decide) rfl ?_
    refine V.iconst (v := (2)) dX4_divide_12 (by decide) ?_
    refine V.iadd dX4_divide_13 ?_
    refine V.bipush (v := (8)) dX4_divide_14 (by decide) ?_
    refine V.icmp_ge (tgt := 27) dX4_divide_16 (by decide) (fun c4 => ?_) (fun c4 => ?_)
    · have H5 := H3.1 c4
      refine V.iconst (v := (0)) dX4_divide_27 (by decide) ?_
      exact V.ret (v := some (.int (0 : Int32))) rfl (Or.inl ⟨_, rfl, dX4_divide_28, _, rfl, (by decide)⟩) ⟨Nat.le_refl _, Nat.le_refl _⟩ H5
    · have H6 := H3.2 c4
      refine V.aload_n dX4_divide_19 rfl rfl ?_
      refine V.getf (v := .int (I p 4)) dX4_divide_20 fl_X4_32 hp.1 (by decide) rfl ?_
      refine V.iconst (v := (2)) dX4_divide_23 (by decide) ?_
      refine V.icmp_ge (tgt := 29) dX4_divide_24 (by decide) (fun c7 => ?_) (fun c7 => ?_)
      · have H8 := H6.1 c7
        refine V.aload_n dX4_divide_29 rfl rfl ?_
        refine V.getf (v := .ref (p + 2)) dX4_divide_30 fl_X4_15 hp.1 (by decide) rfl ?_
        refine V.aload_n dX4_divide_33 rfl rfl ?_
        refine V.getf (v := .int (I p 3)) dX4_divide_34 fl_X4_28 hp.1 (by decide) rfl ?_
        refine V.iconst (v := (1)) dX4_divide_37 (by decide) ?_
        refine V.iadd dX4_divide_38 ?_
        refine V.lconst (v := 0) dX4_divide_39 (by decide) ?_
        obtain ⟨o9, H10⟩ := H8
        refine V.last dX4_divide_40 hp.2.2.1 o9 ?_
        refine V.aload_n dX4_divide_41 rfl rfl ?_
        refine V.getf (v := .ref (p + 2)) dX4_divide_42 fl_X4_15 hp.1 (by decide) rfl ?_
        refine V.aload_n dX4_divide_45 rfl rfl ?_
        refine V.getf (v := .int (I p 3)) dX4_divide_46 fl_X4_28 hp.1 (by decide) rfl ?_
        refine V.iconst (v := (2)) dX4_divide_49 (by decide) ?_
        refine V.iadd dX4_divide_50 ?_
        refine V.lconst (v := 0) dX4_divide_51 (by decide) ?_
        obtain ⟨o11, H12⟩ := H10
        refine V.last dX4_divide_52 hp.2.2.1 o11 ?_
        refine V.aload_n dX4_divide_53 rfl rfl ?_
        refine V.getf (v := .int (I p 3)) dX4_divide_54 fl_X4_28 hp.1 (by decide) rfl ?_
        refine V.topi (fun y13 e14 => ?_)
        have H15 := H12 y13 e14
        refine V.istore (lo' := [(4, .int y13), (0, .ref p), (1, .int a), (2, .int b), (3, .int c)]) dX4_divide_57 (by decide) rfl ?_
        exact V.los [1, 2, 3, 4, 0] rfl H15
      · have H16 := H6.2 c7
        refine V.iconst (v := (0)) dX4_divide_27 (by decide) ?_
        exact V.ret (v := some (.int (0 : Int32))) rfl (Or.inl ⟨_, rfl, dX4_divide_28, _, rfl, (by decide)⟩) ⟨Nat.le_refl _, Nat.le_refl _⟩ H16
def hd_X5_multiplyBy_2 (S : List mjD) (RET : Option Value → mjH → Prop) (a0 : Nat) (a1 : Nat) (x2 : Int32) (I : Nat → Nat → Int32) (L : Nat → Nat → Int64) : Prop := V mr_X5_multiplyBy (0, 0) RET 2 [(0, .ref a0), (1, .ref a1), (2, .int x2)] [] (S, I, L) (0, 0)
set_option maxRecDepth 100000 in
set_option maxHeartbeats 4000000 in
theorem it_X5_multiplyBy_2 {S : List mjD} {RET : Option Value → mjH → Prop} {a0 : Nat} (h0 : is_Poly S a0) {a1 : Nat} (h1 : is_Poly S a1) {x2 : Int32} {I : Nat → Nat → Int32} {L : Nat → Nat → Int64} (H0 : ((x2 < 0 → RET none (S, I, L)) ∧ (¬ x2 < 0 → ∃ r4 I5 L6, CTl mr_X5_productAt [.ref a0, .ref a1, .int x2] S I L r4 I5 L6 ∧ (vp_in x2 6) ∧ ∀ y11 : Int32, y11 = x2 + (-1) → hd_X5_multiplyBy_2 S RET a0 a1 y11 I5 (mj_up L6 (a0 + 1) x2.toNatClampNeg r4)))) : hd_X5_multiplyBy_2 S RET a0 a1 x2 I L := by
  unfold hd_X5_multiplyBy_2
  refine V.iload_n dX5_multiplyBy_2 rfl rfl ?_
  refine V.if_lt (tgt := 24) dX5_multiplyBy_3 (by decide) (fun c1 => ?_) (fun c1 => ?_)
  · have H2 := H0.1 c1
    exact V.ret rfl (Or.inr (Or.inr (Or.inr ⟨rfl, dX5_multiplyBy_24, rfl⟩))) ⟨Nat.le_refl _, Nat.le_refl _⟩ H2
  · have H3 := H0.2 c1
    refine V.aload_n dX5_multiplyBy_6 rfl rfl ?_
    refine V.getf (v := .ref (a0 + 1)) dX5_multiplyBy_7 fl_X5_11 h0.1 (by decide) rfl ?_
    refine V.iload_n dX5_multiplyBy_10 rfl rfl ?_
    refine V.aload_n dX5_multiplyBy_11 rfl rfl ?_
    refine V.aload_n dX5_multiplyBy_12 rfl rfl ?_
    refine V.iload_n dX5_multiplyBy_13 rfl rfl ?_
    obtain ⟨r4, I5, L6, t7, H8⟩ := H3
    refine V.cVl (N := mr_X5_productAt) (as := [.ref a1, .int x2]) dX5_multiplyBy_14 ml_X5_41 ok_X5_productAt okV_X5_productAt ⟨Nat.le_of_ble_eq_true rfl, Nat.le_of_ble_eq_true rfl⟩ h0.1 rfl rfl rfl (Nat.le_of_ble_eq_true rfl) t7 ?_
    obtain ⟨o9, H10⟩ := H8
    refine V.last dX5_multiplyBy_17 h0.2 o9 ?_
    obtain ⟨y11, e12⟩ : ∃ y : Int32, y = x2 + (-1) := ⟨_, rfl⟩
    have H13 := H10 y11 e12
    refine V.iinc (v := y11) (lo' := [(2, .int y11), (0, .ref a0), (1, .ref a1)]) dX5_multiplyBy_18 rfl (by rw [e12]; rfl) (by decide) rfl ?_
    refine V.goto (tgt := 2) dX5_multiplyBy_21 (by decide) ?_
    exact V.los [1, 2, 0] rfl H13
set_option maxRecDepth 100000 in
set_option maxHeartbeats 4000000 in
theorem wp_X5_multiplyBy {S : List mjD} {RET : Option Value → mjH → Prop} {p : Nat} (hp : is_Poly S p) {q : Nat} (hq : is_Poly S q) {I : Nat → Nat → Int32} {L : Nat → Nat → Int64} (H0 : hd_X5_multiplyBy_2 S RET p q (5 : Int32) I L) : CT mr_X5_multiplyBy (0, 0) [.ref p, .ref q] (S, I, L) RET := by
  refine CT.of (lo := [(0, .ref p), (1, .ref q)]) (by decide) (fun _ _ => Nat.le_of_ble_eq_true rfl) (fun _ _ => rfl) rfl ?_
  refine V.iconst (v := (5)) dX5_multiplyBy_0 (by decide) ?_
  refine V.istore_n (lo' := [(2, .int (5 : Int32)), (0, .ref p), (1, .ref q)]) dX5_multiplyBy_1 rfl (by decide) rfl ?_
  exact V.los [1, 2, 0] rfl H0
def hd_X5_becomeQuotient_34 (S : List mjD) (RET : Option Value → mjH → Prop) (a0 : Nat) (a1 : Nat) (a2 : Nat) (x3 : Int32) (x4 : Int64) (x6 : Int32) (I : Nat → Nat → Int32) (L : Nat → Nat → Int64) : Prop := V mr_X5_becomeQuotient (0, 0) RET 34 [(0, .ref a0), (1, .ref a1), (2, .ref a2), (3, .int x3), (4, .long x4), (6, .int x6)] [] (S, I, L) (0, 0)
def hd_X5_becomeQuotient_91 (S : List mjD) (RET : Option Value → mjH → Prop) (a0 : Nat) (a1 : Nat) (a2 : Nat) (x3 : Int32) (x6 : Int32) (I : Nat → Nat → Int32) (L : Nat → Nat → Int64) : Prop := V mr_X5_becomeQuotient (0, 0) RET 91 [(0, .ref a0), (1, .ref a1), (2, .ref a2), (3, .int x3), (6, .int x6)] [] (S, I, L) (0, 0)
set_option maxRecDepth 100000 in
set_option maxHeartbeats 4000000 in
theorem it_X5_becomeQuotient_34 {S : List mjD} {RET : Option Value → mjH → Prop} {a0 : Nat} (h0 : is_Poly S a0) {a1 : Nat} (h1 : is_Poly S a1) {a2 : Nat} (h2 : is_Poly S a2) {x3 : Int32} {x4 : Int64} {x6 : Int32} {I : Nat → Nat → Int32} {L : Nat → Nat → Int64} (H0 : ((x6 < 0 → hd_X5_becomeQuotient_91 S RET a0 a1 a2 x3 (0 : Int32) I L) ∧ (¬ x6 < 0 → ∃ r30 I31 L32, CTl mr_X5_at [.ref a1, .int (x6 + x3)] S I L r30 I31 L32 ∧ ∃ r35 I36 L37, CTl mr_X5_productAt [.ref a0, .ref a2, .int (x6 + x3)] S I31 L32 r35 I36 L37 ∧ ∀ y40 : Int64, y40 = (r30 - r35) → (¬ x4 = 0) ∧ (((y40 - y40 / x4 * x4) = (0 : Int64) → (¬ x4 = 0) ∧ ∃ I50 L51, CTv mr_X5_set [.ref a0, .int x6, .long (y40 / x4)] S I36 L37 I50 L51 ∧ ∀ y54 : Int32, y54 = x6 + (-1) → hd_X5_becomeQuotient_34 S RET a0 a1 a2 x3 x4 y54 I50 L51) ∧ (¬ (y40 - y40 / x4 * x4) = (0 : Int64) → RET (some (.int (0 : Int32))) (S, I36, L37)))))) : hd_X5_becomeQuotient_34 S RET a0 a1 a2 x3 x4 x6 I L := by
  unfold hd_X5_becomeQuotient_34
  refine V.iload dX5_becomeQuotient_34 rfl ?_
  refine V.if_lt (tgt := 88) dX5_becomeQuotient_36 (by decide) (fun c27 => ?_) (fun c27 => ?_)
  · have H28 := H0.1 c27
    refine V.iconst (v := (0)) dX5_becomeQuotient_88 (by decide) ?_
    refine V.istore (lo' := [(6, .int (0 : Int32)), (0, .ref a0), (1, .ref a1), (2, .ref a2), (3, .int x3), (4, .long x4)]) dX5_becomeQuotient_89 (by decide) rfl ?_
    exact V.los [1, 2, 3, 4, 0] rfl H28
  · have H29 := H0.2 c27
    refine V.aload_n dX5_becomeQuotient_39 rfl rfl ?_
    refine V.iload dX5_becomeQuotient_40 rfl ?_
    refine V.iload_n dX5_becomeQuotient_42 rfl rfl ?_
    refine V.iadd dX5_becomeQuotient_43 ?_
    obtain ⟨r30, I31, L32, t33, H34⟩ := H29
    refine V.cVl (N := mr_X5_at) (as := [.int (x6 + x3)]) dX5_becomeQuotient_44 ml_X5_37 ok_X5_at okV_X5_at ⟨Nat.le_of_ble_eq_true rfl, Nat.le_of_ble_eq_true rfl⟩ h1.1 rfl rfl rfl (Nat.le_of_ble_eq_true rfl) t33 ?_
    refine V.aload_n dX5_becomeQuotient_47 rfl rfl ?_
    refine V.aload_n dX5_becomeQuotient_48 rfl rfl ?_
    refine V.iload dX5_becomeQuotient_49 rfl ?_
    refine V.iload_n dX5_becomeQuotient_51 rfl rfl ?_
    refine V.iadd dX5_becomeQuotient_52 ?_
    obtain ⟨r35, I36, L37, t38, H39⟩ := H34
    refine V.cVl (N := mr_X5_productAt) (as := [.ref a2, .int (x6 + x3)]) dX5_becomeQuotient_53 ml_X5_41 ok_X5_productAt okV_X5_productAt ⟨Nat.le_of_ble_eq_true rfl, Nat.le_of_ble_eq_true rfl⟩ h0.1 rfl rfl rfl (Nat.le_of_ble_eq_true rfl) t38 ?_
    refine V.lsub dX5_becomeQuotient_56 ?_
    refine V.topl (fun y40 e41 => ?_)
    have H42 := H39 y40 e41
    refine V.lstore (lo' := [(7, .long y40), (0, .ref a0), (1, .ref a1), (2, .ref a2), (3, .int x3), (4, .long x4), (6, .int x6)]) dX5_becomeQuotient_57 (by decide) rfl ?_
    refine V.lload dX5_becomeQuotient_59 rfl ?_
    refine V.lload dX5_becomeQuotient_61 rfl ?_
    obtain ⟨o43, H44⟩ := H42
    refine V.lrem dX5_becomeQuotient_63 o43 ?_
    refine V.lconst (v := 0) dX5_becomeQuotient_64 (by decide) ?_
    refine V.lc_eq (tgt := 71) dX5_becomeQuotient_65 dX5_becomeQuotient_66 (by decide) (fun c45 => ?_) (fun c45 => ?_)
    · have H46 := H44.1 c45
      refine V.aload_n dX5_becomeQuotient_71 rfl rfl ?_
      refine V.iload dX5_becomeQuotient_72 rfl ?_
      refine V.lload dX5_becomeQuotient_74 rfl ?_
      refine V.lload dX5_becomeQuotient_76 rfl ?_
      obtain ⟨o47, H48⟩ := H46
      refine V.ldiv dX5_becomeQuotient_78 o47 ?_
      obtain ⟨I50, L51, t52, H53⟩ := H48
      refine V.cVv (N := mr_X5_set) (as := [.int x6, .long (y40 / x4)]) dX5_becomeQuotient_79 ml_X5_45 ok_X5_set okV_X5_set ⟨Nat.le_of_ble_eq_true rfl, Nat.le_of_ble_eq_true rfl⟩ h0.1 rfl rfl rfl (Nat.le_of_ble_eq_true rfl) t52 ?_
      obtain ⟨y54, e55⟩ : ∃ y : Int32, y = x6 + (-1) := ⟨_, rfl⟩
      have H56 := H53 y54 e55
      refine V.iinc (v := y54) (lo' := [(6, .int y54), (7, .long y40), (0, .ref a0), (1, .ref a1), (2, .ref a2), (3, .int x3), (4, .long x4)]) dX5_becomeQuotient_82 rfl (by rw [e55]; rfl) (by decide) rfl ?_
      refine V.goto (tgt := 34) dX5_becomeQuotient_85 (by decide) ?_
      exact V.los [2, 3, 4, 5, 6, 0] rfl H56
    · have H57 := H44.2 c45
      refine V.iconst (v := (0)) dX5_becomeQuotient_69 (by decide) ?_
      exact V.ret (v := some (.int (0 : Int32))) rfl (Or.inl ⟨_, rfl, dX5_becomeQuotient_70, _, rfl, (by decide)⟩) ⟨Nat.le_refl _, Nat.le_refl _⟩ H57
set_option maxRecDepth 100000 in
set_option maxHeartbeats 4000000 in
theorem it_X5_becomeQuotient_91 {S : List mjD} {RET : Option Value → mjH → Prop} {a0 : Nat} (h0 : is_Poly S a0) {a1 : Nat} (h1 : is_Poly S a1) {a2 : Nat} (h2 : is_Poly S a2) {x3 : Int32} {x6 : Int32} {I : Nat → Nat → Int32} {L : Nat → Nat → Int64} (H0 : ((x3 ≤ x6 → RET (some (.int (1 : Int32))) (S, I, L)) ∧ (¬ x3 ≤ x6 → ∃ r61 I62 L63, CTl mr_X5_at [.ref a1, .int x6] S I L r61 I62 L63 ∧ ∃ r66 I67 L68, CTl mr_X5_productAt [.ref a0, .ref a2, .int x6] S I62 L63 r66 I67 L68 ∧ ((r61 = r66 → ∀ y73 : Int32, y73 = x6 + 1 → hd_X5_becomeQuotient_91 S RET a0 a1 a2 x3 y73 I67 L68) ∧ (¬ r61 = r66 → RET (some (.int (0 : Int32))) (S, I67, L68)))))) : hd_X5_becomeQuotient_91 S RET a0 a1 a2 x3 x6 I L := by
  unfold hd_X5_becomeQuotient_91
  refine V.iload dX5_becomeQuotient_91 rfl ?_
  refine V.iload_n dX5_becomeQuotient_93 rfl rfl ?_
  refine V.icmp_ge (tgt := 122) dX5_becomeQuotient_94 (by decide) (fun c58 => ?_) (fun c58 => ?_)
  · have H59 := H0.1 c58
    refine V.iconst (v := (1)) dX5_becomeQuotient_122 (by decide) ?_
    exact V.ret (v := some (.int (1 : Int32))) rfl (Or.inl ⟨_, rfl, dX5_becomeQuotient_123, _, rfl, (by decide)⟩) ⟨Nat.le_refl _, Nat.le_refl _⟩ H59
  · have H60 := H0.2 c58
    refine V.aload_n dX5_becomeQuotient_97 rfl rfl ?_
    refine V.iload dX5_becomeQuotient_98 rfl ?_
    obtain ⟨r61, I62, L63, t64, H65⟩ := H60
    refine V.cVl (N := mr_X5_at) (as := [.int x6]) dX5_becomeQuotient_100 ml_X5_37 ok_X5_at okV_X5_at ⟨Nat.le_of_ble_eq_true rfl, Nat.le_of_ble_eq_true rfl⟩ h1.1 rfl rfl rfl (Nat.le_of_ble_eq_true rfl) t64 ?_
    refine V.aload_n dX5_becomeQuotient_103 rfl rfl ?_
    refine V.aload_n dX5_becomeQuotient_104 rfl rfl ?_
    refine V.iload dX5_becomeQuotient_105 rfl ?_
    obtain ⟨r66, I67, L68, t69, H70⟩ := H65
    refine V.cVl (N := mr_X5_productAt) (as := [.ref a2, .int x6]) dX5_becomeQuotient_107 ml_X5_41 ok_X5_productAt okV_X5_productAt ⟨Nat.le_of_ble_eq_true rfl, Nat.le_of_ble_eq_true rfl⟩ h0.1 rfl rfl rfl (Nat.le_of_ble_eq_true rfl) t69 ?_
    refine V.lc_eq (tgt := 116) dX5_becomeQuotient_110 dX5_becomeQuotient_111 (by decide) (fun c71 => ?_) (fun c71 => ?_)
    · have H72 := H70.1 c71
      obtain ⟨y73, e74⟩ : ∃ y : Int32, y = x6 + 1 := ⟨_, rfl⟩
      have H75 := H72 y73 e74
      refine V.iinc (v := y73) (lo' := [(6, .int y73), (0, .ref a0), (1, .ref a1), (2, .ref a2), (3, .int x3)]) dX5_becomeQuotient_116 rfl (by rw [e74]; rfl) (by decide) rfl ?_
      refine V.goto (tgt := 91) dX5_becomeQuotient_119 (by decide) ?_
      exact V.los [1, 2, 3, 4, 0] rfl H75
    · have H76 := H70.2 c71
      refine V.iconst (v := (0)) dX5_becomeQuotient_114 (by decide) ?_
      exact V.ret (v := some (.int (0 : Int32))) rfl (Or.inl ⟨_, rfl, dX5_becomeQuotient_115, _, rfl, (by decide)⟩) ⟨Nat.le_refl _, Nat.le_refl _⟩ H76
set_option maxRecDepth 100000 in
set_option maxHeartbeats 4000000 in
theorem wp_X5_becomeQuotient {S : List mjD} {RET : Option Value → mjH → Prop} {p : Nat} (hp : is_Poly S p) {q : Nat} (hq : is_Poly S q) {r : Nat} (hr : is_Poly S r) {I : Nat → Nat → Int32} {L : Nat → Nat → Int64} (H0 : ∃ I2 L3, CTv mr_X5_setConstant [.ref p, .long (0 : Int64)] S I L I2 L3 ∧ ∃ r6 I7 L8, CTi mr_X5_degree [.ref r] S I2 L3 r6 I7 L8 ∧ ∃ r11 I12 L13, CTl mr_X5_at [.ref r, .int r6] S I7 L8 r11 I12 L13 ∧ ((¬ r11 = (0 : Int64) → ∃ r18 I19 L20, CTi mr_X5_degree [.ref q] S I12 L13 r18 I19 L20 ∧ ∀ y23 : Int32, y23 = (r18 - r6) → hd_X5_becomeQuotient_34 S RET p q r r6 r11 y23 I19 L20) ∧ (r11 = (0 : Int64) → RET (some (.int (0 : Int32))) (S, I12, L13)))) : CT mr_X5_becomeQuotient (0, 0) [.ref p, .ref q, .ref r] (S, I, L) RET := by
  refine CT.of (lo := [(0, .ref p), (1, .ref q), (2, .ref r)]) (by decide) (fun _ _ => Nat.le_of_ble_eq_true rfl) (fun _ _ => rfl) rfl ?_
  refine V.aload_n dX5_becomeQuotient_0 rfl rfl ?_
  refine V.lconst (v := 0) dX5_becomeQuotient_1 (by decide) ?_
  obtain ⟨I2, L3, t4, H5⟩ := H0
  refine V.cVv (N := mr_X5_setConstant) (as := [.long (0 : Int64)]) dX5_becomeQuotient_2 ml_X5_15 ok_X5_setConstant okV_X5_setConstant ⟨Nat.le_of_ble_eq_true rfl, Nat.le_of_ble_eq_true rfl⟩ hp.1 rfl rfl rfl (Nat.le_of_ble_eq_true rfl) t4 ?_
  refine V.aload_n dX5_becomeQuotient_5 rfl rfl ?_
  obtain ⟨r6, I7, L8, t9, H10⟩ := H5
  refine V.cVi (N := mr_X5_degree) (as := []) dX5_becomeQuotient_6 ml_X5_33 ok_X5_degree okV_X5_degree ⟨Nat.le_of_ble_eq_true rfl, Nat.le_of_ble_eq_true rfl⟩ hr.1 rfl rfl rfl (Nat.le_of_ble_eq_true rfl) t9 ?_
  refine V.istore_n (lo' := [(3, .int r6), (0, .ref p), (1, .ref q), (2, .ref r)]) dX5_becomeQuotient_9 rfl (by decide) rfl ?_
  refine V.aload_n dX5_becomeQuotient_10 rfl rfl ?_
  refine V.iload_n dX5_becomeQuotient_11 rfl rfl ?_
  obtain ⟨r11, I12, L13, t14, H15⟩ := H10
  refine V.cVl (N := mr_X5_at) (as := [.int r6]) dX5_becomeQuotient_12 ml_X5_37 ok_X5_at okV_X5_at ⟨Nat.le_of_ble_eq_true rfl, Nat.le_of_ble_eq_true rfl⟩ hr.1 rfl rfl rfl (Nat.le_of_ble_eq_true rfl) t14 ?_
  refine V.lstore (lo' := [(4, .long r11), (3, .int r6), (0, .ref p), (1, .ref q), (2, .ref r)]) dX5_becomeQuotient_15 (by decide) rfl ?_
  refine V.lload dX5_becomeQuotient_17 rfl ?_
  refine V.lconst (v := 0) dX5_becomeQuotient_19 (by decide) ?_
  refine V.lc_ne (tgt := 26) dX5_becomeQuotient_20 dX5_becomeQuotient_21 (by decide) (fun c16 => ?_) (fun c16 => ?_)
  · have H17 := H15.1 c16
    refine V.aload_n dX5_becomeQuotient_26 rfl rfl ?_
    obtain ⟨r18, I19, L20, t21, H22⟩ := H17
    refine V.cVi (N := mr_X5_degree) (as := []) dX5_becomeQuotient_27 ml_X5_33 ok_X5_degree okV_X5_degree ⟨Nat.le_of_ble_eq_true rfl, Nat.le_of_ble_eq_true rfl⟩ hq.1 rfl rfl rfl (Nat.le_of_ble_eq_true rfl) t21 ?_
    refine V.iload_n dX5_becomeQuotient_30 rfl rfl ?_
    refine V.isub dX5_becomeQuotient_31 ?_
    refine V.topi (fun y23 e24 => ?_)
    have H25 := H22 y23 e24
    refine V.istore (lo' := [(6, .int y23), (4, .long r11), (3, .int r6), (0, .ref p), (1, .ref q), (2, .ref r)]) dX5_becomeQuotient_32 (by decide) rfl ?_
    exact V.los [3, 4, 5, 2, 1, 0] rfl H25
  · have H26 := H15.2 c16
    refine V.iconst (v := (0)) dX5_becomeQuotient_24 (by decide) ?_
    exact V.ret (v := some (.int (0 : Int32))) rfl (Or.inl ⟨_, rfl, dX5_becomeQuotient_25, _, rfl, (by decide)⟩) ⟨Nat.le_refl _, Nat.le_refl _⟩ H26
def hd_X5_spell_7 (S : List mjD) (RET : Option Value → mjH → Prop) (a0 : Nat) (a1 : Nat) (x2 : Int32) (I : Nat → Nat → Int32) (L : Nat → Nat → Int64) : Prop := V mr_X5_spell (0, 0) RET 7 [(0, .ref a0), (1, .ref a1), (2, .int x2)] [] (S, I, L) (0, 0)
set_option maxRecDepth 100000 in
set_option maxHeartbeats 4000000 in
theorem it_X5_spell_7 {S : List mjD} {RET : Option Value → mjH → Prop} {a0 : Nat} (h0 : is_Poly S a0) {a1 : Nat} (h1 : is_Line S a1) {x2 : Int32} {I : Nat → Nat → Int32} {L : Nat → Nat → Int64} (H0 : ((x2 < 0 → RET none (S, I, L)) ∧ (¬ x2 < 0 → (vp_in x2 6) ∧ (((L (a0 + 1) x2.toNatClampNeg) = (0 : Int64) → ∀ y8 : Int32, y8 = x2 + (-1) → hd_X5_spell_7 S RET a0 a1 y8 I L) ∧ (¬ (L (a0 + 1) x2.toNatClampNeg) = (0 : Int64) → (vp_in x2 6) ∧ ∃ I15 L16, CTv mr_X5_spellTerm [.ref a1, .long (L (a0 + 1) x2.toNatClampNeg), .int x2] S I L I15 L16 ∧ ∀ y19 : Int32, y19 = x2 + (-1) → hd_X5_spell_7 S RET a0 a1 y19 I15 L16))))) : hd_X5_spell_7 S RET a0 a1 x2 I L := by
  unfold hd_X5_spell_7
  refine V.iload_n dX5_spell_7 rfl rfl ?_
  refine V.if_lt (tgt := 39) dX5_spell_8 (by decide) (fun c1 => ?_) (fun c1 => ?_)
  · have H2 := H0.1 c1
    exact V.ret rfl (Or.inr (Or.inr (Or.inr ⟨rfl, dX5_spell_39, rfl⟩))) ⟨Nat.le_refl _, Nat.le_refl _⟩ H2
  · have H3 := H0.2 c1
    refine V.aload_n dX5_spell_11 rfl rfl ?_
    refine V.getf (v := .ref (a0 + 1)) dX5_spell_12 fl_X5_11 h0.1 (by decide) rfl ?_
    refine V.iload_n dX5_spell_15 rfl rfl ?_
    obtain ⟨o4, H5⟩ := H3
    refine V.lald dX5_spell_16 h0.2 o4 ?_
    refine V.lconst (v := 0) dX5_spell_17 (by decide) ?_
    refine V.lc_eq (tgt := 33) dX5_spell_18 dX5_spell_19 (by decide) (fun c6 => ?_) (fun c6 => ?_)
    · have H7 := H5.1 c6
      obtain ⟨y8, e9⟩ : ∃ y : Int32, y = x2 + (-1) := ⟨_, rfl⟩
      have H10 := H7 y8 e9
      refine V.iinc (v := y8) (lo' := [(2, .int y8), (0, .ref a0), (1, .ref a1)]) dX5_spell_33 rfl (by rw [e9]; rfl) (by decide) rfl ?_
      refine V.goto (tgt := 7) dX5_spell_36 (by decide) ?_
      exact V.los [1, 2, 0] rfl H10
    · have H11 := H5.2 c6
      refine V.aload_n dX5_spell_22 rfl rfl ?_
      refine V.aload_n dX5_spell_23 rfl rfl ?_
      refine V.getf (v := .ref (a0 + 1)) dX5_spell_24 fl_X5_11 h0.1 (by decide) rfl ?_
      refine V.iload_n dX5_spell_27 rfl rfl ?_
      obtain ⟨o12, H13⟩ := H11
      refine V.lald dX5_spell_28 h0.2 o12 ?_
      refine V.iload_n dX5_spell_29 rfl rfl ?_
      obtain ⟨I15, L16, t17, H18⟩ := H13
      refine V.cSv (N := mr_X5_spellTerm) (as := [.ref a1, .long (L (a0 + 1) x2.toNatClampNeg), .int x2]) dX5_spell_30 ml_X5_59 ok_X5_spellTerm okS_X5_spellTerm ⟨Nat.le_of_ble_eq_true rfl, Nat.le_of_ble_eq_true rfl⟩ rfl rfl (Nat.le_of_ble_eq_true rfl) t17 ?_
      obtain ⟨y19, e20⟩ : ∃ y : Int32, y = x2 + (-1) := ⟨_, rfl⟩
      have H21 := H18 y19 e20
      refine V.iinc (v := y19) (lo' := [(2, .int y19), (0, .ref a0), (1, .ref a1)]) dX5_spell_33 rfl (by rw [e20]; rfl) (by decide) rfl ?_
      refine V.goto (tgt := 7) dX5_spell_36 (by decide) ?_
      exact V.los [1, 2, 0] rfl H21
set_option maxRecDepth 100000 in
set_option maxHeartbeats 4000000 in
theorem wp_X5_spell {S : List mjD} {RET : Option Value → mjH → Prop} {p : Nat} (hp : is_Poly S p) {q : Nat} (hq : is_Line S q) {I : Nat → Nat → Int32} {L : Nat → Nat → Int64} (H0 : hd_X5_spell_7 S RET p q (5 : Int32) (mj_up I q 1 (0 : Int32)) L) : CT mr_X5_spell (0, 0) [.ref p, .ref q] (S, I, L) RET := by
  refine CT.of (lo := [(0, .ref p), (1, .ref q)]) (by decide) (fun _ _ => Nat.le_of_ble_eq_true rfl) (fun _ _ => rfl) rfl ?_
  refine V.aload_n dX5_spell_0 rfl rfl ?_
  refine V.iconst (v := (0)) dX5_spell_1 (by decide) ?_
  refine V.puti dX5_spell_2 fl_X5_53 fp_X5_53 (Or.inl rfl) hq.1 (by decide) rfl rfl ?_
  refine V.iconst (v := (5)) dX5_spell_5 (by decide) ?_
  refine V.istore_n (lo' := [(2, .int (5 : Int32)), (0, .ref p), (1, .ref q)]) dX5_spell_6 rfl (by decide) rfl ?_
  exact V.los [1, 2, 0] rfl H0
def hd_X4_takeLinear_2 (S : List mjD) (RET : Option Value → mjH → Prop) (a0 : Nat) (x1 : Int32) (I : Nat → Nat → Int32) (L : Nat → Nat → Int64) : Prop := V mr_X4_takeLinear (0, 0) RET 2 [(0, .ref a0), (1, .int x1)] [] (S, I, L) (0, 0)
set_option maxRecDepth 100000 in
set_option maxHeartbeats 4000000 in
theorem it_X4_takeLinear_2 {S : List mjD} {RET : Option Value → mjH → Prop} {a0 : Nat} (h0 : is_Parts S a0) {x1 : Int32} {I : Nat → Nat → Int32} {L : Nat → Nat → Int64} (H0 : (((I a0 4) ≤ x1 → RET (some (.int (1 : Int32))) (S, I, L)) ∧ (¬ (I a0 4) ≤ x1 → ∃ r4 I5 L6, CTi mr_X4_divide [.ref a0, .int (1 : Int32), .int x1, .int (0 : Int32)] S I L r4 I5 L6 ∧ ((r4 = 0 → ∀ y11 : Int32, y11 = x1 + 1 → hd_X4_takeLinear_2 S RET a0 y11 I5 L6) ∧ (¬ r4 = 0 → ∃ r15 I16 L17, CTi mr_X4_divide [.ref a0, .int (1 : Int32), .int x1, .int (0 : Int32)] S (mj_up I5 (a0 + 3) (1 : Int32).toNatClampNeg ((I5 (a0 + 3) (1 : Int32).toNatClampNeg) + (1 : Int32))) L6 r15 I16 L17 ∧ ((r15 = 0 → ∀ y22 : Int32, y22 = x1 + 1 → hd_X4_takeLinear_2 S RET a0 y22 I16 L17) ∧ (¬ r15 = 0 → RET (some (.int (0 : Int32))) (S, I16, L17)))))))) : hd_X4_takeLinear_2 S RET a0 x1 I L := by
  unfold hd_X4_takeLinear_2
  refine V.iload_n dX4_takeLinear_2 rfl rfl ?_
  refine V.aload_n dX4_takeLinear_3 rfl rfl ?_
  refine V.getf (v := .int (I a0 4)) dX4_takeLinear_4 fl_X4_32 h0.1 (by decide) rfl ?_
  refine V.icmp_ge (tgt := 48) dX4_takeLinear_7 (by decide) (fun c1 => ?_) (fun c1 => ?_)
  · have H2 := H0.1 c1
    refine V.iconst (v := (1)) dX4_takeLinear_48 (by decide) ?_
    exact V.ret (v := some (.int (1 : Int32))) rfl (Or.inl ⟨_, rfl, dX4_takeLinear_49, _, rfl, (by decide)⟩) ⟨Nat.le_refl _, Nat.le_refl _⟩ H2
  · have H3 := H0.2 c1
    refine V.aload_n dX4_takeLinear_10 rfl rfl ?_
    refine V.iconst (v := (1)) dX4_takeLinear_11 (by decide) ?_
    refine V.iload_n dX4_takeLinear_12 rfl rfl ?_
    refine V.iconst (v := (0)) dX4_takeLinear_13 (by decide) ?_
    obtain ⟨r4, I5, L6, t7, H8⟩ := H3
    refine V.cVi (N := mr_X4_divide) (as := [.int (1 : Int32), .int x1, .int (0 : Int32)]) dX4_takeLinear_14 ml_X4_52 ok_X4_divide okV_X4_divide ⟨Nat.le_of_ble_eq_true rfl, Nat.le_of_ble_eq_true rfl⟩ h0.1 rfl rfl rfl (Nat.le_of_ble_eq_true rfl) t7 ?_
    refine V.if_eq (tgt := 42) dX4_takeLinear_17 (by decide) (fun c9 => ?_) (fun c9 => ?_)
    · have H10 := H8.1 c9
      obtain ⟨y11, e12⟩ : ∃ y : Int32, y = x1 + 1 := ⟨_, rfl⟩
      have H13 := H10 y11 e12
      refine V.iinc (v := y11) (lo' := [(1, .int y11), (0, .ref a0)]) dX4_takeLinear_42 rfl (by rw [e12]; rfl) (by decide) rfl ?_
      refine V.goto (tgt := 2) dX4_takeLinear_45 (by decide) ?_
      exact V.los [1, 0] rfl H13
    · have H14 := H8.2 c9
      refine V.aload_n dX4_takeLinear_20 rfl rfl ?_
      refine V.getf (v := .ref (a0 + 3)) dX4_takeLinear_21 fl_X4_18 h0.1 (by decide) rfl ?_
      refine V.iconst (v := (1)) dX4_takeLinear_24 (by decide) ?_
      refine V.dup2 dX4_takeLinear_25 rfl rfl ?_
      refine V.iald dX4_takeLinear_26 h0.2.2.2 (mj_lit (by decide)) ?_
      refine V.iconst (v := (1)) dX4_takeLinear_27 (by decide) ?_
      refine V.iadd dX4_takeLinear_28 ?_
      refine V.iast dX4_takeLinear_29 h0.2.2.2 (mj_lit (by decide)) ?_
      refine V.aload_n dX4_takeLinear_30 rfl rfl ?_
      refine V.iconst (v := (1)) dX4_takeLinear_31 (by decide) ?_
      refine V.iload_n dX4_takeLinear_32 rfl rfl ?_
      refine V.iconst (v := (0)) dX4_takeLinear_33 (by decide) ?_
      obtain ⟨r15, I16, L17, t18, H19⟩ := H14
      refine V.cVi (N := mr_X4_divide) (as := [.int (1 : Int32), .int x1, .int (0 : Int32)]) dX4_takeLinear_34 ml_X4_52 ok_X4_divide okV_X4_divide ⟨Nat.le_of_ble_eq_true rfl, Nat.le_of_ble_eq_true rfl⟩ h0.1 rfl rfl rfl (Nat.le_of_ble_eq_true rfl) t18 ?_
      refine V.if_eq (tgt := 42) dX4_takeLinear_37 (by decide) (fun c20 => ?_) (fun c20 => ?_)
      · have H21 := H19.1 c20
        obtain ⟨y22, e23⟩ : ∃ y : Int32, y = x1 + 1 := ⟨_, rfl⟩
        have H24 := H21 y22 e23
        refine V.iinc (v := y22) (lo' := [(1, .int y22), (0, .ref a0)]) dX4_takeLinear_42 rfl (by rw [e23]; rfl) (by decide) rfl ?_
        refine V.goto (tgt := 2) dX4_takeLinear_45 (by decide) ?_
        exact V.los [1, 0] rfl H24
      · have H25 := H19.2 c20
        refine V.iconst (v := (0)) dX4_takeLinear_40 (by decide) ?_
        exact V.ret (v := some (.int (0 : Int32))) rfl (Or.inl ⟨_, rfl, dX4_takeLinear_41, _, rfl, (by decide)⟩) ⟨Nat.le_refl _, Nat.le_refl _⟩ H25
set_option maxRecDepth 100000 in
set_option maxHeartbeats 4000000 in
theorem wp_X4_takeLinear {S : List mjD} {RET : Option Value → mjH → Prop} {p : Nat} (hp : is_Parts S p) {I : Nat → Nat → Int32} {L : Nat → Nat → Int64} (H0 : hd_X4_takeLinear_2 S RET p (0 : Int32) I L) : CT mr_X4_takeLinear (0, 0) [.ref p] (S, I, L) RET := by
  refine CT.of (lo := [(0, .ref p)]) (by decide) (fun _ _ => Nat.le_of_ble_eq_true rfl) (fun _ _ => rfl) rfl ?_
  refine V.iconst (v := (0)) dX4_takeLinear_0 (by decide) ?_
  refine V.istore_n (lo' := [(1, .int (0 : Int32)), (0, .ref p)]) dX4_takeLinear_1 rfl (by decide) rfl ?_
  exact V.los [1, 0] rfl H0
def hd_X4_takeQuadratic_2 (S : List mjD) (RET : Option Value → mjH → Prop) (a0 : Nat) (x1 : Int32) (I : Nat → Nat → Int32) (L : Nat → Nat → Int64) : Prop := V mr_X4_takeQuadratic (0, 0) RET 2 [(0, .ref a0), (1, .int x1)] [] (S, I, L) (0, 0)
def hd_X4_takeQuadratic_20 (S : List mjD) (RET : Option Value → mjH → Prop) (a0 : Nat) (x1 : Int32) (x2 : Int32) (I : Nat → Nat → Int32) (L : Nat → Nat → Int64) : Prop := V mr_X4_takeQuadratic (0, 0) RET 20 [(0, .ref a0), (1, .int x1), (2, .int x2)] [] (S, I, L) (0, 0)
set_option maxRecDepth 100000 in
set_option maxHeartbeats 4000000 in
theorem it_X4_takeQuadratic_2 {S : List mjD} {RET : Option Value → mjH → Prop} {a0 : Nat} (h0 : is_Parts S a0) {x1 : Int32} {I : Nat → Nat → Int32} {L : Nat → Nat → Int64} (H0 : (((I a0 4) ≤ x1 → RET (some (.int (1 : Int32))) (S, I, L)) ∧ (¬ (I a0 4) ≤ x1 → (((I a0 3) < (4 : Int32) → RET (some (.int (1 : Int32))) (S, I, L)) ∧ (¬ (I a0 3) < (4 : Int32) → hd_X4_takeQuadratic_20 S RET a0 x1 (0 : Int32) I L))))) : hd_X4_takeQuadratic_2 S RET a0 x1 I L := by
  unfold hd_X4_takeQuadratic_2
  refine V.iload_n dX4_takeQuadratic_2 rfl rfl ?_
  refine V.aload_n dX4_takeQuadratic_3 rfl rfl ?_
  refine V.getf (v := .int (I a0 4)) dX4_takeQuadratic_4 fl_X4_32 h0.1 (by decide) rfl ?_
  refine V.icmp_ge (tgt := 80) dX4_takeQuadratic_7 (by decide) (fun c1 => ?_) (fun c1 => ?_)
  · have H2 := H0.1 c1
    refine V.iconst (v := (1)) dX4_takeQuadratic_80 (by decide) ?_
    exact V.ret (v := some (.int (1 : Int32))) rfl (Or.inl ⟨_, rfl, dX4_takeQuadratic_81, _, rfl, (by decide)⟩) ⟨Nat.le_refl _, Nat.le_refl _⟩ H2
  · have H3 := H0.2 c1
    refine V.aload_n dX4_takeQuadratic_10 rfl rfl ?_
    refine V.getf (v := .int (I a0 3)) dX4_takeQuadratic_11 fl_X4_28 h0.1 (by decide) rfl ?_
    refine V.iconst (v := (4)) dX4_takeQuadratic_14 (by decide) ?_
    refine V.icmp_lt (tgt := 80) dX4_takeQuadratic_15 (by decide) (fun c4 => ?_) (fun c4 => ?_)
    · have H5 := H3.1 c4
      refine V.iconst (v := (1)) dX4_takeQuadratic_80 (by decide) ?_
      exact V.ret (v := some (.int (1 : Int32))) rfl (Or.inl ⟨_, rfl, dX4_takeQuadratic_81, _, rfl, (by decide)⟩) ⟨Nat.le_refl _, Nat.le_refl _⟩ H5
    · have H6 := H3.2 c4
      refine V.iconst (v := (0)) dX4_takeQuadratic_18 (by decide) ?_
      refine V.istore_n (lo' := [(2, .int (0 : Int32)), (0, .ref a0), (1, .int x1)]) dX4_takeQuadratic_19 rfl (by decide) rfl ?_
      exact V.los [1, 2, 0] rfl H6
set_option maxRecDepth 100000 in
set_option maxHeartbeats 4000000 in
theorem it_X4_takeQuadratic_20 {S : List mjD} {RET : Option Value → mjH → Prop} {a0 : Nat} (h0 : is_Parts S a0) {x1 : Int32} {x2 : Int32} {I : Nat → Nat → Int32} {L : Nat → Nat → Int64} (H0 : (((I a0 4) ≤ x2 → ∀ y9 : Int32, y9 = x1 + 1 → hd_X4_takeQuadratic_2 S RET a0 y9 I L) ∧ (¬ (I a0 4) ≤ x2 → (((I a0 3) < (4 : Int32) → ∀ y15 : Int32, y15 = x1 + 1 → hd_X4_takeQuadratic_2 S RET a0 y15 I L) ∧ (¬ (I a0 3) < (4 : Int32) → ∃ r19 I20 L21, CTi mr_X4_divide [.ref a0, .int (2 : Int32), .int x1, .int x2] S I L r19 I20 L21 ∧ ((r19 = 0 → ∀ y26 : Int32, y26 = x2 + 1 → hd_X4_takeQuadratic_20 S RET a0 x1 y26 I20 L21) ∧ (¬ r19 = 0 → ∃ r30 I31 L32, CTi mr_X4_divide [.ref a0, .int (2 : Int32), .int x1, .int x2] S (mj_up I20 (a0 + 3) (2 : Int32).toNatClampNeg ((I20 (a0 + 3) (2 : Int32).toNatClampNeg) + (1 : Int32))) L21 r30 I31 L32 ∧ ((r30 = 0 → ∀ y37 : Int32, y37 = x2 + 1 → hd_X4_takeQuadratic_20 S RET a0 x1 y37 I31 L32) ∧ (¬ r30 = 0 → RET (some (.int (0 : Int32))) (S, I31, L32)))))))))) : hd_X4_takeQuadratic_20 S RET a0 x1 x2 I L := by
  unfold hd_X4_takeQuadratic_20
  refine V.iload_n dX4_takeQuadratic_20 rfl rfl ?_
  refine V.aload_n dX4_takeQuadratic_21 rfl rfl ?_
  refine V.getf (v := .int (I a0 4)) dX4_takeQuadratic_22 fl_X4_32 h0.1 (by decide) rfl ?_
  refine V.icmp_ge (tgt := 74) dX4_takeQuadratic_25 (by decide) (fun c7 => ?_) (fun c7 => ?_)
  · have H8 := H0.1 c7
    obtain ⟨y9, e10⟩ : ∃ y : Int32, y = x1 + 1 := ⟨_, rfl⟩
    have H11 := H8 y9 e10
    refine V.iinc (v := y9) (lo' := [(1, .int y9), (0, .ref a0), (2, .int x2)]) dX4_takeQuadratic_74 rfl (by rw [e10]; rfl) (by decide) rfl ?_
    refine V.goto (tgt := 2) dX4_takeQuadratic_77 (by decide) ?_
    exact V.los [1, 0] rfl H11
  · have H12 := H0.2 c7
    refine V.aload_n dX4_takeQuadratic_28 rfl rfl ?_
    refine V.getf (v := .int (I a0 3)) dX4_takeQuadratic_29 fl_X4_28 h0.1 (by decide) rfl ?_
    refine V.iconst (v := (4)) dX4_takeQuadratic_32 (by decide) ?_
    refine V.icmp_lt (tgt := 74) dX4_takeQuadratic_33 (by decide) (fun c13 => ?_) (fun c13 => ?_)
    · have H14 := H12.1 c13
      obtain ⟨y15, e16⟩ : ∃ y : Int32, y = x1 + 1 := ⟨_, rfl⟩
      have H17 := H14 y15 e16
      refine V.iinc (v := y15) (lo' := [(1, .int y15), (0, .ref a0), (2, .int x2)]) dX4_takeQuadratic_74 rfl (by rw [e16]; rfl) (by decide) rfl ?_
      refine V.goto (tgt := 2) dX4_takeQuadratic_77 (by decide) ?_
      exact V.los [1, 0] rfl H17
    · have H18 := H12.2 c13
      refine V.aload_n dX4_takeQuadratic_36 rfl rfl ?_
      refine V.iconst (v := (2)) dX4_takeQuadratic_37 (by decide) ?_
      refine V.iload_n dX4_takeQuadratic_38 rfl rfl ?_
      refine V.iload_n dX4_takeQuadratic_39 rfl rfl ?_
      obtain ⟨r19, I20, L21, t22, H23⟩ := H18
      refine V.cVi (N := mr_X4_divide) (as := [.int (2 : Int32), .int x1, .int x2]) dX4_takeQuadratic_40 ml_X4_52 ok_X4_divide okV_X4_divide ⟨Nat.le_of_ble_eq_true rfl, Nat.le_of_ble_eq_true rfl⟩ h0.1 rfl rfl rfl (Nat.le_of_ble_eq_true rfl) t22 ?_
      refine V.if_eq (tgt := 68) dX4_takeQuadratic_43 (by decide) (fun c24 => ?_) (fun c24 => ?_)
      · have H25 := H23.1 c24
        obtain ⟨y26, e27⟩ : ∃ y : Int32, y = x2 + 1 := ⟨_, rfl⟩
        have H28 := H25 y26 e27
        refine V.iinc (v := y26) (lo' := [(2, .int y26), (0, .ref a0), (1, .int x1)]) dX4_takeQuadratic_68 rfl (by rw [e27]; rfl) (by decide) rfl ?_
        refine V.goto (tgt := 20) dX4_takeQuadratic_71 (by decide) ?_
        exact V.los [1, 2, 0] rfl H28
      · have H29 := H23.2 c24
        refine V.aload_n dX4_takeQuadratic_46 rfl rfl ?_
        refine V.getf (v := .ref (a0 + 3)) dX4_takeQuadratic_47 fl_X4_18 h0.1 (by decide) rfl ?_
        refine V.iconst (v := (2)) dX4_takeQuadratic_50 (by decide) ?_
        refine V.dup2 dX4_takeQuadratic_51 rfl rfl ?_
        refine V.iald dX4_takeQuadratic_52 h0.2.2.2 (mj_lit (by decide)) ?_
        refine V.iconst (v := (1)) dX4_takeQuadratic_53 (by decide) ?_
        refine V.iadd dX4_takeQuadratic_54 ?_
        refine V.iast dX4_takeQuadratic_55 h0.2.2.2 (mj_lit (by decide)) ?_
        refine V.aload_n dX4_takeQuadratic_56 rfl rfl ?_
        refine V.iconst (v := (2)) dX4_takeQuadratic_57 (by decide) ?_
        refine V.iload_n dX4_takeQuadratic_58 rfl rfl ?_
        refine V.iload_n dX4_takeQuadratic_59 rfl rfl ?_
        obtain ⟨r30, I31, L32, t33, H34⟩ := H29
        refine V.cVi (N := mr_X4_divide) (as := [.int (2 : Int32), .int x1, .int x2]) dX4_takeQuadratic_60 ml_X4_52 ok_X4_divide okV_X4_divide ⟨Nat.le_of_ble_eq_true rfl, Nat.le_of_ble_eq_true rfl⟩ h0.1 rfl rfl rfl (Nat.le_of_ble_eq_true rfl) t33 ?_
        refine V.if_eq (tgt := 68) dX4_takeQuadratic_63 (by decide) (fun c35 => ?_) (fun c35 => ?_)
        · have H36 := H34.1 c35
          obtain ⟨y37, e38⟩ : ∃ y : Int32, y = x2 + 1 := ⟨_, rfl⟩
          have H39 := H36 y37 e38
          refine V.iinc (v := y37) (lo' := [(2, .int y37), (0, .ref a0), (1, .int x1)]) dX4_takeQuadratic_68 rfl (by rw [e38]; rfl) (by decide) rfl ?_
          refine V.goto (tgt := 20) dX4_takeQuadratic_71 (by decide) ?_
          exact V.los [1, 2, 0] rfl H39
        · have H40 := H34.2 c35
          refine V.iconst (v := (0)) dX4_takeQuadratic_66 (by decide) ?_
          exact V.ret (v := some (.int (0 : Int32))) rfl (Or.inl ⟨_, rfl, dX4_takeQuadratic_67, _, rfl, (by decide)⟩) ⟨Nat.le_refl _, Nat.le_refl _⟩ H40
set_option maxRecDepth 100000 in
set_option maxHeartbeats 4000000 in
theorem wp_X4_takeQuadratic {S : List mjD} {RET : Option Value → mjH → Prop} {p : Nat} (hp : is_Parts S p) {I : Nat → Nat → Int32} {L : Nat → Nat → Int64} (H0 : hd_X4_takeQuadratic_2 S RET p (0 : Int32) I L) : CT mr_X4_takeQuadratic (0, 0) [.ref p] (S, I, L) RET := by
  refine CT.of (lo := [(0, .ref p)]) (by decide) (fun _ _ => Nat.le_of_ble_eq_true rfl) (fun _ _ => rfl) rfl ?_
  refine V.iconst (v := (0)) dX4_takeQuadratic_0 (by decide) ?_
  refine V.istore_n (lo' := [(1, .int (0 : Int32)), (0, .ref p)]) dX4_takeQuadratic_1 rfl (by decide) rfl ?_
  exact V.los [1, 0] rfl H0
def hd_X5_content_4 (S : List mjD) (RET : Option Value → mjH → Prop) (a0 : Nat) (x1 : Int64) (x3 : Int32) (I : Nat → Nat → Int32) (L : Nat → Nat → Int64) : Prop := V mr_X5_content (0, 0) RET 4 [(0, .ref a0), (1, .long x1), (3, .int x3)] [] (S, I, L) (0, 0)
set_option maxRecDepth 100000 in
set_option maxHeartbeats 4000000 in
theorem it_X5_content_4 {S : List mjD} {RET : Option Value → mjH → Prop} {a0 : Nat} (h0 : is_Poly S a0) {x1 : Int64} {x3 : Int32} {I : Nat → Nat → Int32} {L : Nat → Nat → Int64} (H0 : (((6 : Int32) ≤ x3 → ∃ r3 I4 L5, CTi mr_X5_degree [.ref a0] S I L r3 I4 L5 ∧ ∃ r8 I9 L10, CTl mr_X5_at [.ref a0, .int r3] S I4 L5 r8 I9 L10 ∧ (((0 : Int64) ≤ r8 → RET (some (.long x1)) (S, I9, L10)) ∧ (¬ (0 : Int64) ≤ r8 → RET (some (.long (-x1))) (S, I9, L10)))) ∧ (¬ (6 : Int32) ≤ x3 → (vp_in x3 6) ∧ ∃ r19 I20 L21, CTl mr_X5_commonDivisor [.long x1, .long (L (a0 + 1) x3.toNatClampNeg)] S I L r19 I20 L21 ∧ ∀ y24 : Int32, y24 = x3 + 1 → hd_X5_content_4 S RET a0 r19 y24 I20 L21))) : hd_X5_content_4 S RET a0 x1 x3 I L := by
  unfold hd_X5_content_4
  refine V.iload_n dX5_content_4 rfl rfl ?_
  refine V.bipush (v := (6)) dX5_content_5 (by decide) ?_
  refine V.icmp_ge (tgt := 27) dX5_content_7 (by decide) (fun c1 => ?_) (fun c1 => ?_)
  · have H2 := H0.1 c1
    refine V.aload_n dX5_content_27 rfl rfl ?_
    refine V.aload_n dX5_content_28 rfl rfl ?_
    obtain ⟨r3, I4, L5, t6, H7⟩ := H2
    refine V.cVi (N := mr_X5_degree) (as := []) dX5_content_29 ml_X5_33 ok_X5_degree okV_X5_degree ⟨Nat.le_of_ble_eq_true rfl, Nat.le_of_ble_eq_true rfl⟩ h0.1 rfl rfl rfl (Nat.le_of_ble_eq_true rfl) t6 ?_
    obtain ⟨r8, I9, L10, t11, H12⟩ := H7
    refine V.cVl (N := mr_X5_at) (as := [.int r3]) dX5_content_32 ml_X5_37 ok_X5_at okV_X5_at ⟨Nat.le_of_ble_eq_true rfl, Nat.le_of_ble_eq_true rfl⟩ h0.1 rfl rfl rfl (Nat.le_of_ble_eq_true rfl) t11 ?_
    refine V.lconst (v := 0) dX5_content_35 (by decide) ?_
    refine V.lc_ge (tgt := 45) dX5_content_36 dX5_content_37 (by decide) (fun c13 => ?_) (fun c13 => ?_)
    · have H14 := H12.1 c13
      refine V.lload_n dX5_content_45 rfl rfl ?_
      exact V.ret (v := some (.long x1)) rfl (Or.inr (Or.inl ⟨_, rfl, dX5_content_46, rfl⟩)) ⟨Nat.le_refl _, Nat.le_refl _⟩ H14
    · have H15 := H12.2 c13
      refine V.lload_n dX5_content_40 rfl rfl ?_
      refine V.lneg dX5_content_41 ?_
      refine V.goto (tgt := 46) dX5_content_42 (by decide) ?_
      exact V.ret (v := some (.long (-x1))) rfl (Or.inr (Or.inl ⟨_, rfl, dX5_content_46, rfl⟩)) ⟨Nat.le_refl _, Nat.le_refl _⟩ H15
  · have H16 := H0.2 c1
    refine V.lload_n dX5_content_10 rfl rfl ?_
    refine V.aload_n dX5_content_11 rfl rfl ?_
    refine V.getf (v := .ref (a0 + 1)) dX5_content_12 fl_X5_11 h0.1 (by decide) rfl ?_
    refine V.iload_n dX5_content_15 rfl rfl ?_
    obtain ⟨o17, H18⟩ := H16
    refine V.lald dX5_content_16 h0.2 o17 ?_
    obtain ⟨r19, I20, L21, t22, H23⟩ := H18
    refine V.cSl (N := mr_X5_commonDivisor) (as := [.long x1, .long (L (a0 + 1) x3.toNatClampNeg)]) dX5_content_17 ml_X5_29 ok_X5_commonDivisor okS_X5_commonDivisor ⟨Nat.le_of_ble_eq_true rfl, Nat.le_of_ble_eq_true rfl⟩ rfl rfl (Nat.le_of_ble_eq_true rfl) t22 ?_
    refine V.lstore_n (lo' := [(1, .long r19), (0, .ref a0), (3, .int x3)]) dX5_content_20 rfl (by decide) rfl ?_
    obtain ⟨y24, e25⟩ : ∃ y : Int32, y = x3 + 1 := ⟨_, rfl⟩
    have H26 := H23 y24 e25
    refine V.iinc (v := y24) (lo' := [(3, .int y24), (1, .long r19), (0, .ref a0)]) dX5_content_21 rfl (by rw [e25]; rfl) (by decide) rfl ?_
    refine V.goto (tgt := 4) dX5_content_24 (by decide) ?_
    exact V.los [2, 1, 0] rfl H26
set_option maxRecDepth 100000 in
set_option maxHeartbeats 4000000 in
theorem wp_X5_content {S : List mjD} {RET : Option Value → mjH → Prop} {p : Nat} (hp : is_Poly S p) {I : Nat → Nat → Int32} {L : Nat → Nat → Int64} (H0 : hd_X5_content_4 S RET p (0 : Int64) (0 : Int32) I L) : CT mr_X5_content (0, 0) [.ref p] (S, I, L) RET := by
  refine CT.of (lo := [(0, .ref p)]) (by decide) (fun _ _ => Nat.le_of_ble_eq_true rfl) (fun _ _ => rfl) rfl ?_
  refine V.lconst (v := 0) dX5_content_0 (by decide) ?_
  refine V.lstore_n (lo' := [(1, .long (0 : Int64)), (0, .ref p)]) dX5_content_1 rfl (by decide) rfl ?_
  refine V.iconst (v := (0)) dX5_content_2 (by decide) ?_
  refine V.istore_n (lo' := [(3, .int (0 : Int32)), (1, .long (0 : Int64)), (0, .ref p)]) dX5_content_3 rfl (by decide) rfl ?_
  exact V.los [2, 1, 0] rfl H0
def hd_X4_split_46 (S : List mjD) (RET : Option Value → mjH → Prop) (a0 : Nat) (a1 : Nat) (x2 : Int32) (x3 : Int32) (I : Nat → Nat → Int32) (L : Nat → Nat → Int64) : Prop := V mr_X4_split (0, 0) RET 46 [(0, .ref a0), (1, .ref a1), (2, .int x2), (3, .int x3)] [] (S, I, L) (0, 0)
def hd_X4_split_76 (S : List mjD) (RET : Option Value → mjH → Prop) (a0 : Nat) (x3 : Int32) (I : Nat → Nat → Int32) (L : Nat → Nat → Int64) : Prop := V mr_X4_split (0, 0) RET 76 [(0, .ref a0), (3, .int x3)] [] (S, I, L) (0, 0)
set_option maxRecDepth 100000 in
set_option maxHeartbeats 4000000 in
theorem it_X4_split_46 {S : List mjD} {RET : Option Value → mjH → Prop} {a0 : Nat} (h0 : is_Parts S a0) {a1 : Nat} (h1 : is_Poly S a1) {x2 : Int32} {x3 : Int32} {I : Nat → Nat → Int32} {L : Nat → Nat → Int64} (H0 : (((8 : Int32) ≤ x3 → hd_X4_split_76 S RET a0 (0 : Int32) I L) ∧ (¬ (8 : Int32) ≤ x3 → ∃ r25 I26 L27, CTl mr_X5_at [.ref a1, .int x3] S I L r25 I26 L27 ∧ ∃ r30 I31 L32, CTl mr_J9_floorMod_f86c9 [.long r25, .long x2.toInt64] S I26 L27 r30 I31 L32 ∧ (vp_in x3 8) ∧ ∀ y37 : Int32, y37 = x3 + 1 → hd_X4_split_46 S RET a0 a1 x2 y37 I31 (mj_up L32 (a0 + 1) x3.toNatClampNeg r30)))) : hd_X4_split_46 S RET a0 a1 x2 x3 I L := by
  unfold hd_X4_split_46
  refine V.iload_n dX4_split_46 rfl rfl ?_
  refine V.bipush (v := (8)) dX4_split_47 (by decide) ?_
  refine V.icmp_ge (tgt := 74) dX4_split_49 (by decide) (fun c22 => ?_) (fun c22 => ?_)
  · have H23 := H0.1 c22
    refine V.iconst (v := (0)) dX4_split_74 (by decide) ?_
    refine V.istore_n (lo' := [(3, .int (0 : Int32)), (0, .ref a0), (1, .ref a1), (2, .int x2)]) dX4_split_75 rfl (by decide) rfl ?_
    exact V.los [1, 0] rfl H23
  · have H24 := H0.2 c22
    refine V.aload_n dX4_split_52 rfl rfl ?_
    refine V.getf (v := .ref (a0 + 1)) dX4_split_53 fl_X4_11 h0.1 (by decide) rfl ?_
    refine V.iload_n dX4_split_56 rfl rfl ?_
    refine V.aload_n dX4_split_57 rfl rfl ?_
    refine V.iload_n dX4_split_58 rfl rfl ?_
    obtain ⟨r25, I26, L27, t28, H29⟩ := H24
    refine V.cVl (N := mr_X5_at) (as := [.int x3]) dX4_split_59 ml_X4_35 ok_X5_at okV_X5_at ⟨Nat.le_of_ble_eq_true rfl, Nat.le_of_ble_eq_true rfl⟩ h1.1 rfl rfl rfl (Nat.le_of_ble_eq_true rfl) t28 ?_
    refine V.iload_n dX4_split_62 rfl rfl ?_
    refine V.i2l dX4_split_63 ?_
    obtain ⟨r30, I31, L32, t33, H34⟩ := H29
    refine V.cSl (N := mr_J9_floorMod_f86c9) (as := [.long r25, .long x2.toInt64]) dX4_split_64 ml_X4_39 ok_J9_floorMod_f86c9 okS_J9_floorMod_f86c9 ⟨Nat.le_of_ble_eq_true rfl, Nat.le_of_ble_eq_true rfl⟩ rfl rfl (Nat.le_of_ble_eq_true rfl) t33 ?_
    obtain ⟨o35, H36⟩ := H34
    refine V.last dX4_split_67 h0.2.1 o35 ?_
    obtain ⟨y37, e38⟩ : ∃ y : Int32, y = x3 + 1 := ⟨_, rfl⟩
    have H39 := H36 y37 e38
    refine V.iinc (v := y37) (lo' := [(3, .int y37), (0, .ref a0), (1, .ref a1), (2, .int x2)]) dX4_split_68 rfl (by rw [e38]; rfl) (by decide) rfl ?_
    refine V.goto (tgt := 46) dX4_split_71 (by decide) ?_
    exact V.los [1, 2, 3, 0] rfl H39
set_option maxRecDepth 100000 in
set_option maxHeartbeats 4000000 in
theorem it_X4_split_76 {S : List mjD} {RET : Option Value → mjH → Prop} {a0 : Nat} (h0 : is_Parts S a0) {x3 : Int32} {I : Nat → Nat → Int32} {L : Nat → Nat → Int64} (H0 : (((5 : Int32) < x3 → ∃ r42 I43 L44, CTi mr_X4_takeLinear [.ref a0] S I L r42 I43 L44 ∧ ((r42 = 0 → RET (some (.int (0 : Int32))) (S, I43, L44)) ∧ (¬ r42 = 0 → ∃ r50 I51 L52, CTi mr_X4_takeQuadratic [.ref a0] S I43 L44 r50 I51 L52 ∧ ((¬ r50 = 0 → (((I51 a0 3) < (1 : Int32) → RET (some (.int (1 : Int32))) (S, I51, L52)) ∧ (¬ (I51 a0 3) < (1 : Int32) → (((5 : Int32) < (I51 a0 3) → RET (some (.int (1 : Int32))) (S, I51, L52)) ∧ (¬ (5 : Int32) < (I51 a0 3) → (vp_in (I51 a0 3) 6) ∧ (vp_in (I51 a0 3) 6) ∧ RET (some (.int (1 : Int32))) (S, mj_up I51 (a0 + 3) (I51 a0 3).toNatClampNeg ((I51 (a0 + 3) (I51 a0 3).toNatClampNeg) + (1 : Int32)), L52)))))) ∧ (r50 = 0 → RET (some (.int (0 : Int32))) (S, I51, L52)))))) ∧ (¬ (5 : Int32) < x3 → (vp_in x3 6) ∧ ∀ y71 : Int32, y71 = x3 + 1 → hd_X4_split_76 S RET a0 y71 (mj_up I (a0 + 3) x3.toNatClampNeg (0 : Int32)) L))) : hd_X4_split_76 S RET a0 x3 I L := by
  unfold hd_X4_split_76
  refine V.iload_n dX4_split_76 rfl rfl ?_
  refine V.iconst (v := (5)) dX4_split_77 (by decide) ?_
  refine V.icmp_gt (tgt := 94) dX4_split_78 (by decide) (fun c40 => ?_) (fun c40 => ?_)
  · have H41 := H0.1 c40
    refine V.aload_n dX4_split_94 rfl rfl ?_
    obtain ⟨r42, I43, L44, t45, H46⟩ := H41
    refine V.cVi (N := mr_X4_takeLinear) (as := []) dX4_split_95 ml_X4_45 ok_X4_takeLinear okV_X4_takeLinear ⟨Nat.le_of_ble_eq_true rfl, Nat.le_of_ble_eq_true rfl⟩ h0.1 rfl rfl rfl (Nat.le_of_ble_eq_true rfl) t45 ?_
    refine V.if_eq (tgt := 108) dX4_split_98 (by decide) (fun c47 => ?_) (fun c47 => ?_)
    · have H48 := H46.1 c47
      refine V.iconst (v := (0)) dX4_split_108 (by decide) ?_
      exact V.ret (v := some (.int (0 : Int32))) rfl (Or.inl ⟨_, rfl, dX4_split_109, _, rfl, (by decide)⟩) ⟨Nat.le_refl _, Nat.le_refl _⟩ H48
    · have H49 := H46.2 c47
      refine V.aload_n dX4_split_101 rfl rfl ?_
      obtain ⟨r50, I51, L52, t53, H54⟩ := H49
      refine V.cVi (N := mr_X4_takeQuadratic) (as := []) dX4_split_102 ml_X4_49 ok_X4_takeQuadratic okV_X4_takeQuadratic ⟨Nat.le_of_ble_eq_true rfl, Nat.le_of_ble_eq_true rfl⟩ h0.1 rfl rfl rfl (Nat.le_of_ble_eq_true rfl) t53 ?_
      refine V.if_ne (tgt := 110) dX4_split_105 (by decide) (fun c55 => ?_) (fun c55 => ?_)
      · have H56 := H54.1 c55
        refine V.aload_n dX4_split_110 rfl rfl ?_
        refine V.getf (v := .int (I51 a0 3)) dX4_split_111 fl_X4_28 h0.1 (by decide) rfl ?_
        refine V.iconst (v := (1)) dX4_split_114 (by decide) ?_
        refine V.icmp_lt (tgt := 139) dX4_split_115 (by decide) (fun c57 => ?_) (fun c57 => ?_)
        · have H58 := H56.1 c57
          refine V.iconst (v := (1)) dX4_split_139 (by decide) ?_
          exact V.ret (v := some (.int (1 : Int32))) rfl (Or.inl ⟨_, rfl, dX4_split_140, _, rfl, (by decide)⟩) ⟨Nat.le_refl _, Nat.le_refl _⟩ H58
        · have H59 := H56.2 c57
          refine V.aload_n dX4_split_118 rfl rfl ?_
          refine V.getf (v := .int (I51 a0 3)) dX4_split_119 fl_X4_28 h0.1 (by decide) rfl ?_
          refine V.iconst (v := (5)) dX4_split_122 (by decide) ?_
          refine V.icmp_gt (tgt := 139) dX4_split_123 (by decide) (fun c60 => ?_) (fun c60 => ?_)
          · have H61 := H59.1 c60
            refine V.iconst (v := (1)) dX4_split_139 (by decide) ?_
            exact V.ret (v := some (.int (1 : Int32))) rfl (Or.inl ⟨_, rfl, dX4_split_140, _, rfl, (by decide)⟩) ⟨Nat.le_refl _, Nat.le_refl _⟩ H61
          · have H62 := H59.2 c60
            refine V.aload_n dX4_split_126 rfl rfl ?_
            refine V.getf (v := .ref (a0 + 3)) dX4_split_127 fl_X4_18 h0.1 (by decide) rfl ?_
            refine V.aload_n dX4_split_130 rfl rfl ?_
            refine V.getf (v := .int (I51 a0 3)) dX4_split_131 fl_X4_28 h0.1 (by decide) rfl ?_
            refine V.dup2 dX4_split_134 rfl rfl ?_
            obtain ⟨o63, H64⟩ := H62
            refine V.iald dX4_split_135 h0.2.2.2 o63 ?_
            refine V.iconst (v := (1)) dX4_split_136 (by decide) ?_
            refine V.iadd dX4_split_137 ?_
            obtain ⟨o65, H66⟩ := H64
            refine V.iast dX4_split_138 h0.2.2.2 o65 ?_
            refine V.iconst (v := (1)) dX4_split_139 (by decide) ?_
            exact V.ret (v := some (.int (1 : Int32))) rfl (Or.inl ⟨_, rfl, dX4_split_140, _, rfl, (by decide)⟩) ⟨Nat.le_refl _, Nat.le_refl _⟩ H66
      · have H67 := H54.2 c55
        refine V.iconst (v := (0)) dX4_split_108 (by decide) ?_
        exact V.ret (v := some (.int (0 : Int32))) rfl (Or.inl ⟨_, rfl, dX4_split_109, _, rfl, (by decide)⟩) ⟨Nat.le_refl _, Nat.le_refl _⟩ H67
  · have H68 := H0.2 c40
    refine V.aload_n dX4_split_81 rfl rfl ?_
    refine V.getf (v := .ref (a0 + 3)) dX4_split_82 fl_X4_18 h0.1 (by decide) rfl ?_
    refine V.iload_n dX4_split_85 rfl rfl ?_
    refine V.iconst (v := (0)) dX4_split_86 (by decide) ?_
    obtain ⟨o69, H70⟩ := H68
    refine V.iast dX4_split_87 h0.2.2.2 o69 ?_
    obtain ⟨y71, e72⟩ : ∃ y : Int32, y = x3 + 1 := ⟨_, rfl⟩
    have H73 := H70 y71 e72
    refine V.iinc (v := y71) (lo' := [(3, .int y71), (0, .ref a0)]) dX4_split_88 rfl (by rw [e72]; rfl) (by decide) rfl ?_
    refine V.goto (tgt := 76) dX4_split_91 (by decide) ?_
    exact V.los [1, 0] rfl H73
set_option maxRecDepth 100000 in
set_option maxHeartbeats 4000000 in
theorem wp_X4_split {S : List mjD} {RET : Option Value → mjH → Prop} {p : Nat} (hp : is_Parts S p) {q : Nat} (hq : is_Poly S q) {a : Int32} {I : Nat → Nat → Int32} {L : Nat → Nat → Int64} (H0 : ∃ r1 I2 L3, CTi mr_X5_degree [.ref q] S I L r1 I2 L3 ∧ ((a < (2 : Int32) → RET (some (.int (0 : Int32))) (S, mj_up (mj_up I2 p 3 r1) p 4 a, L3)) ∧ (¬ a < (2 : Int32) → ((((mj_up (mj_up I2 p 3 r1) p 4 a) p 3) < (1 : Int32) → RET (some (.int (0 : Int32))) (S, mj_up (mj_up I2 p 3 r1) p 4 a, L3)) ∧ (¬ ((mj_up (mj_up I2 p 3 r1) p 4 a) p 3) < (1 : Int32) → ∃ r12 I13 L14, CTl mr_X5_at [.ref q, .int ((mj_up (mj_up I2 p 3 r1) p 4 a) p 3)] S (mj_up (mj_up I2 p 3 r1) p 4 a) L3 r12 I13 L14 ∧ (¬ a.toInt64 = 0) ∧ ((¬ (r12 - r12 / a.toInt64 * a.toInt64) = (0 : Int64) → hd_X4_split_46 S RET p q a (0 : Int32) I13 L14) ∧ ((r12 - r12 / a.toInt64 * a.toInt64) = (0 : Int64) → RET (some (.int (0 : Int32))) (S, I13, L14)))))))) : CT mr_X4_split (0, 0) [.ref p, .ref q, .int a] (S, I, L) RET := by
  refine CT.of (lo := [(0, .ref p), (1, .ref q), (2, .int a)]) (by decide) (fun _ _ => Nat.le_of_ble_eq_true rfl) (fun _ _ => rfl) rfl ?_
  refine V.aload_n dX4_split_0 rfl rfl ?_
  refine V.aload_n dX4_split_1 rfl rfl ?_
  obtain ⟨r1, I2, L3, t4, H5⟩ := H0
  refine V.cVi (N := mr_X5_degree) (as := []) dX4_split_2 ml_X4_22 ok_X5_degree okV_X5_degree ⟨Nat.le_of_ble_eq_true rfl, Nat.le_of_ble_eq_true rfl⟩ hq.1 rfl rfl rfl (Nat.le_of_ble_eq_true rfl) t4 ?_
  refine V.puti dX4_split_5 fl_X4_28 fp_X4_28 (Or.inl rfl) hp.1 (by decide) rfl rfl ?_
  refine V.aload_n dX4_split_8 rfl rfl ?_
  refine V.iload_n dX4_split_9 rfl rfl ?_
  refine V.puti dX4_split_10 fl_X4_32 fp_X4_32 (Or.inl rfl) hp.1 (by decide) rfl rfl ?_
  refine V.iload_n dX4_split_13 rfl rfl ?_
  refine V.iconst (v := (2)) dX4_split_14 (by decide) ?_
  refine V.icmp_lt (tgt := 42) dX4_split_15 (by decide) (fun c6 => ?_) (fun c6 => ?_)
  · have H7 := H5.1 c6
    refine V.iconst (v := (0)) dX4_split_42 (by decide) ?_
    exact V.ret (v := some (.int (0 : Int32))) rfl (Or.inl ⟨_, rfl, dX4_split_43, _, rfl, (by decide)⟩) ⟨Nat.le_refl _, Nat.le_refl _⟩ H7
  · have H8 := H5.2 c6
    refine V.aload_n dX4_split_18 rfl rfl ?_
    refine V.getf (v := .int ((mj_up (mj_up I2 p 3 r1) p 4 a) p 3)) dX4_split_19 fl_X4_28 hp.1 (by decide) rfl ?_
    refine V.iconst (v := (1)) dX4_split_22 (by decide) ?_
    refine V.icmp_lt (tgt := 42) dX4_split_23 (by decide) (fun c9 => ?_) (fun c9 => ?_)
    · have H10 := H8.1 c9
      refine V.iconst (v := (0)) dX4_split_42 (by decide) ?_
      exact V.ret (v := some (.int (0 : Int32))) rfl (Or.inl ⟨_, rfl, dX4_split_43, _, rfl, (by decide)⟩) ⟨Nat.le_refl _, Nat.le_refl _⟩ H10
    · have H11 := H8.2 c9
      refine V.aload_n dX4_split_26 rfl rfl ?_
      refine V.aload_n dX4_split_27 rfl rfl ?_
      refine V.getf (v := .int ((mj_up (mj_up I2 p 3 r1) p 4 a) p 3)) dX4_split_28 fl_X4_28 hp.1 (by decide) rfl ?_
      obtain ⟨r12, I13, L14, t15, H16⟩ := H11
      refine V.cVl (N := mr_X5_at) (as := [.int ((mj_up (mj_up I2 p 3 r1) p 4 a) p 3)]) dX4_split_31 ml_X4_35 ok_X5_at okV_X5_at ⟨Nat.le_of_ble_eq_true rfl, Nat.le_of_ble_eq_true rfl⟩ hq.1 rfl rfl rfl (Nat.le_of_ble_eq_true rfl) t15 ?_
      refine V.iload_n dX4_split_34 rfl rfl ?_
      refine V.i2l dX4_split_35 ?_
      obtain ⟨o17, H18⟩ := H16
      refine V.lrem dX4_split_36 o17 ?_
      refine V.lconst (v := 0) dX4_split_37 (by decide) ?_
      refine V.lc_ne (tgt := 44) dX4_split_38 dX4_split_39 (by decide) (fun c19 => ?_) (fun c19 => ?_)
      · have H20 := H18.1 c19
        refine V.iconst (v := (0)) dX4_split_44 (by decide) ?_
        refine V.istore_n (lo' := [(3, .int (0 : Int32)), (0, .ref p), (1, .ref q), (2, .int a)]) dX4_split_45 rfl (by decide) rfl ?_
        exact V.los [1, 2, 3, 0] rfl H20
      · have H21 := H18.2 c19
        refine V.iconst (v := (0)) dX4_split_42 (by decide) ?_
        exact V.ret (v := some (.int (0 : Int32))) rfl (Or.inl ⟨_, rfl, dX4_split_43, _, rfl, (by decide)⟩) ⟨Nat.le_refl _, Nat.le_refl _⟩ H21
