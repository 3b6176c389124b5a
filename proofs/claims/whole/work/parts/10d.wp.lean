set_option maxRecDepth 100000 in
set_option maxHeartbeats 4000000 in
theorem wp_X9_within {S : List mjD} {RET : Option Value → mjH → Prop} {a : Int64} {b : Int64} {c : Int64} {I : Nat → Nat → Int32} {L : Nat → Nat → Int64} (H0 : ((a < b → RET (some (.int (0 : Int32))) (S, I, L)) ∧ (¬ a < b → ((c < a → RET (some (.int (0 : Int32))) (S, I, L)) ∧ (¬ c < a → RET (some (.int (1 : Int32))) (S, I, L)))))) : CT mr_X9_within (0, 0) [.long a, .long b, .long c] (S, I, L) RET := by
  refine CT.of (lo := [(0, .long a), (2, .long b), (4, .long c)]) (by decide) (fun _ _ => Nat.le_of_ble_eq_true rfl) (fun _ _ => rfl) rfl ?_
  refine V.lload_n dX9_within_0 rfl rfl ?_
  refine V.lload_n dX9_within_1 rfl rfl ?_
  refine V.lc_lt (tgt := 17) dX9_within_2 dX9_within_3 (by decide) (fun c1 => ?_) (fun c1 => ?_)
  · have H2 := H0.1 c1
    refine V.iconst (v := (0)) dX9_within_17 (by decide) ?_
    exact V.ret (v := some (.int (0 : Int32))) rfl (Or.inl ⟨_, rfl, dX9_within_18, _, rfl, (by decide)⟩) ⟨Nat.le_refl _, Nat.le_refl _⟩ H2
  · have H3 := H0.2 c1
    refine V.lload_n dX9_within_6 rfl rfl ?_
    refine V.lload dX9_within_7 rfl ?_
    refine V.lc_gt (tgt := 17) dX9_within_9 dX9_within_10 (by decide) (fun c4 => ?_) (fun c4 => ?_)
    · have H5 := H3.1 c4
      refine V.iconst (v := (0)) dX9_within_17 (by decide) ?_
      exact V.ret (v := some (.int (0 : Int32))) rfl (Or.inl ⟨_, rfl, dX9_within_18, _, rfl, (by decide)⟩) ⟨Nat.le_refl _, Nat.le_refl _⟩ H5
    · have H6 := H3.2 c4
      refine V.iconst (v := (1)) dX9_within_13 (by decide) ?_
      refine V.goto (tgt := 18) dX9_within_14 (by decide) ?_
      exact V.ret (v := some (.int (1 : Int32))) rfl (Or.inl ⟨_, rfl, dX9_within_18, _, rfl, (by decide)⟩) ⟨Nat.le_refl _, Nat.le_refl _⟩ H6
set_option maxRecDepth 100000 in
set_option maxHeartbeats 4000000 in
theorem wp_X9_isIn {S : List mjD} {RET : Option Value → mjH → Prop} {a : Int32} {b : Int32} {I : Nat → Nat → Int32} {L : Nat → Nat → Int64} (H0 : ((¬ ((a >>> (b &&& 31)) &&& (1 : Int32)) = (1 : Int32) → RET (some (.int (0 : Int32))) (S, I, L)) ∧ (((a >>> (b &&& 31)) &&& (1 : Int32)) = (1 : Int32) → RET (some (.int (1 : Int32))) (S, I, L)))) : CT mr_X9_isIn (0, 0) [.int a, .int b] (S, I, L) RET := by
  refine CT.of (lo := [(0, .int a), (1, .int b)]) (by decide) (fun _ _ => Nat.le_of_ble_eq_true rfl) (fun _ _ => rfl) rfl ?_
  refine V.iload_n dX9_isIn_0 rfl rfl ?_
  refine V.iload_n dX9_isIn_1 rfl rfl ?_
  refine V.ishr dX9_isIn_2 ?_
  refine V.iconst (v := (1)) dX9_isIn_3 (by decide) ?_
  refine V.iand dX9_isIn_4 ?_
  refine V.iconst (v := (1)) dX9_isIn_5 (by decide) ?_
  refine V.icmp_ne (tgt := 13) dX9_isIn_6 (by decide) (fun c1 => ?_) (fun c1 => ?_)
  · have H2 := H0.1 c1
    refine V.iconst (v := (0)) dX9_isIn_13 (by decide) ?_
    exact V.ret (v := some (.int (0 : Int32))) rfl (Or.inl ⟨_, rfl, dX9_isIn_14, _, rfl, (by decide)⟩) ⟨Nat.le_refl _, Nat.le_refl _⟩ H2
  · have H3 := H0.2 c1
    refine V.iconst (v := (1)) dX9_isIn_9 (by decide) ?_
    refine V.goto (tgt := 14) dX9_isIn_10 (by decide) ?_
    exact V.ret (v := some (.int (1 : Int32))) rfl (Or.inl ⟨_, rfl, dX9_isIn_14, _, rfl, (by decide)⟩) ⟨Nat.le_refl _, Nat.le_refl _⟩ H3
def hd_X9_size_4 (S : List mjD) (RET : Option Value → mjH → Prop) (x0 : Int32) (x1 : Int32) (x2 : Int32) (I : Nat → Nat → Int32) (L : Nat → Nat → Int64) : Prop := V mr_X9_size (0, 0) RET 4 [(0, .int x0), (1, .int x1), (2, .int x2)] [] (S, I, L) (0, 0)
set_option maxRecDepth 100000 in
set_option maxHeartbeats 4000000 in
theorem it_X9_size_4 {S : List mjD} {RET : Option Value → mjH → Prop} {x0 : Int32} {x1 : Int32} {x2 : Int32} {I : Nat → Nat → Int32} {L : Nat → Nat → Int64} (H0 : (((16 : Int32) ≤ x2 → RET (some (.int x1)) (S, I, L)) ∧ (¬ (16 : Int32) ≤ x2 → ∀ y4 : Int32, y4 = (x1 + ((x0 >>> (x2 &&& 31)) &&& (1 : Int32))) → ∀ y7 : Int32, y7 = x2 + 1 → hd_X9_size_4 S RET x0 y4 y7 I L))) : hd_X9_size_4 S RET x0 x1 x2 I L := by
  unfold hd_X9_size_4
  refine V.iload_n dX9_size_4 rfl rfl ?_
  refine V.bipush (v := (16)) dX9_size_5 (by decide) ?_
  refine V.icmp_ge (tgt := 24) dX9_size_7 (by decide) (fun c1 => ?_) (fun c1 => ?_)
  · have H2 := H0.1 c1
    refine V.iload_n dX9_size_24 rfl rfl ?_
    exact V.ret (v := some (.int x1)) rfl (Or.inl ⟨_, rfl, dX9_size_25, _, rfl, rfl⟩) ⟨Nat.le_refl _, Nat.le_refl _⟩ H2
  · have H3 := H0.2 c1
    refine V.iload_n dX9_size_10 rfl rfl ?_
    refine V.iload_n dX9_size_11 rfl rfl ?_
    refine V.iload_n dX9_size_12 rfl rfl ?_
    refine V.ishr dX9_size_13 ?_
    refine V.iconst (v := (1)) dX9_size_14 (by decide) ?_
    refine V.iand dX9_size_15 ?_
    refine V.iadd dX9_size_16 ?_
    refine V.topi (fun y4 e5 => ?_)
    have H6 := H3 y4 e5
    refine V.istore_n (lo' := [(1, .int y4), (0, .int x0), (2, .int x2)]) dX9_size_17 rfl (by decide) rfl ?_
    obtain ⟨y7, e8⟩ : ∃ y : Int32, y = x2 + 1 := ⟨_, rfl⟩
    have H9 := H6 y7 e8
    refine V.iinc (v := y7) (lo' := [(2, .int y7), (1, .int y4), (0, .int x0)]) dX9_size_18 rfl (by rw [e8]; rfl) (by decide) rfl ?_
    refine V.goto (tgt := 4) dX9_size_21 (by decide) ?_
    exact V.los [2, 1, 0] rfl H9
set_option maxRecDepth 100000 in
set_option maxHeartbeats 4000000 in
theorem wp_X9_size {S : List mjD} {RET : Option Value → mjH → Prop} {a : Int32} {I : Nat → Nat → Int32} {L : Nat → Nat → Int64} (H0 : hd_X9_size_4 S RET a (0 : Int32) (0 : Int32) I L) : CT mr_X9_size (0, 0) [.int a] (S, I, L) RET := by
  refine CT.of (lo := [(0, .int a)]) (by decide) (fun _ _ => Nat.le_of_ble_eq_true rfl) (fun _ _ => rfl) rfl ?_
  refine V.iconst (v := (0)) dX9_size_0 (by decide) ?_
  refine V.istore_n (lo' := [(1, .int (0 : Int32)), (0, .int a)]) dX9_size_1 rfl (by decide) rfl ?_
  refine V.iconst (v := (0)) dX9_size_2 (by decide) ?_
  refine V.istore_n (lo' := [(2, .int (0 : Int32)), (1, .int (0 : Int32)), (0, .int a)]) dX9_size_3 rfl (by decide) rfl ?_
  exact V.los [2, 1, 0] rfl H0
set_option maxRecDepth 100000 in
set_option maxHeartbeats 4000000 in
theorem wp_X9_above {S : List mjD} {RET : Option Value → mjH → Prop} {a : Int64} {I : Nat → Nat → Int32} {L : Nat → Nat → Int64} (H0 : (((0 : Int64) ≤ a → RET (some (.long a)) (S, I, L)) ∧ (¬ (0 : Int64) ≤ a → RET (some (.long (-a))) (S, I, L)))) : CT mr_X9_above (0, 0) [.long a] (S, I, L) RET := by
  refine CT.of (lo := [(0, .long a)]) (by decide) (fun _ _ => Nat.le_of_ble_eq_true rfl) (fun _ _ => rfl) rfl ?_
  refine V.lload_n dX9_above_0 rfl rfl ?_
  refine V.lconst (v := 0) dX9_above_1 (by decide) ?_
  refine V.lc_ge (tgt := 11) dX9_above_2 dX9_above_3 (by decide) (fun c1 => ?_) (fun c1 => ?_)
  · have H2 := H0.1 c1
    refine V.lload_n dX9_above_11 rfl rfl ?_
    exact V.ret (v := some (.long a)) rfl (Or.inr (Or.inl ⟨_, rfl, dX9_above_12, rfl⟩)) ⟨Nat.le_refl _, Nat.le_refl _⟩ H2
  · have H3 := H0.2 c1
    refine V.lload_n dX9_above_6 rfl rfl ?_
    refine V.lneg dX9_above_7 ?_
    refine V.goto (tgt := 12) dX9_above_8 (by decide) ?_
    exact V.ret (v := some (.long (-a))) rfl (Or.inr (Or.inl ⟨_, rfl, dX9_above_12, rfl⟩)) ⟨Nat.le_refl _, Nat.le_refl _⟩ H3
set_option maxRecDepth 100000 in
set_option maxHeartbeats 4000000 in
theorem wp_X9_blank {S : List mjD} {RET : Option Value → mjH → Prop} {m : Nat} (hm : is_Model S m) {I : Nat → Nat → Int32} {L : Nat → Nat → Int64} (H0 : ∀ y1 : Int32, y1 = (I m 9) → RET (some (.int y1)) (S, mj_up I m 9 (0 : Int32), L)) : CT mr_X9_blank (0, 0) [.ref m] (S, I, L) RET := by
  refine CT.of (lo := [(0, .ref m)]) (by decide) (fun _ _ => Nat.le_of_ble_eq_true rfl) (fun _ _ => rfl) rfl ?_
  refine V.aload_n dX9_blank_0 rfl rfl ?_
  refine V.getf (v := .int (I m 9)) dX9_blank_1 fl_X9_120 hm.1 (by decide) rfl ?_
  refine V.topi (fun y1 e2 => ?_)
  have H3 := H0 y1 e2
  refine V.istore_n (lo' := [(1, .int y1), (0, .ref m)]) dX9_blank_4 rfl (by decide) rfl ?_
  refine V.aload_n dX9_blank_5 rfl rfl ?_
  refine V.iconst (v := (0)) dX9_blank_6 (by decide) ?_
  refine V.puti dX9_blank_7 fl_X9_120 fp_X9_120 (Or.inl rfl) hm.1 (by decide) rfl rfl ?_
  refine V.iload_n dX9_blank_10 rfl rfl ?_
  exact V.ret (v := some (.int y1)) rfl (Or.inl ⟨_, rfl, dX9_blank_11, _, rfl, rfl⟩) ⟨Nat.le_refl _, Nat.le_refl _⟩ H3
set_option maxRecDepth 100000 in
set_option maxHeartbeats 4000000 in
theorem wp_X9_at {S : List mjD} {RET : Option Value → mjH → Prop} {m : Nat} (hm : is_Model S m) {a : Int32} {I : Nat → Nat → Int32} {L : Nat → Nat → Int64} (H0 : (((I m 9) ≤ a → RET (some (.int (0 : Int32))) (S, I, L)) ∧ (¬ (I m 9) ≤ a → (vp_in a 40) ∧ RET (some (.int (I (m + 7) a.toNatClampNeg))) (S, I, L)))) : CT mr_X9_at (0, 0) [.ref m, .int a] (S, I, L) RET := by
  refine CT.of (lo := [(0, .ref m), (1, .int a)]) (by decide) (fun _ _ => Nat.le_of_ble_eq_true rfl) (fun _ _ => rfl) rfl ?_
  refine V.iload_n dX9_at_0 rfl rfl ?_
  refine V.aload_n dX9_at_1 rfl rfl ?_
  refine V.getf (v := .int (I m 9)) dX9_at_2 fl_X9_120 hm.1 (by decide) rfl ?_
  refine V.icmp_ge (tgt := 17) dX9_at_5 (by decide) (fun c1 => ?_) (fun c1 => ?_)
  · have H2 := H0.1 c1
    refine V.iconst (v := (0)) dX9_at_17 (by decide) ?_
    exact V.ret (v := some (.int (0 : Int32))) rfl (Or.inl ⟨_, rfl, dX9_at_18, _, rfl, rfl⟩) ⟨Nat.le_refl _, Nat.le_refl _⟩ H2
  · have H3 := H0.2 c1
    refine V.aload_n dX9_at_8 rfl rfl ?_
    refine V.getf (v := .ref (m + 7)) dX9_at_9 fl_X9_29 hm.1 (by decide) rfl ?_
    refine V.iload_n dX9_at_12 rfl rfl ?_
    obtain ⟨o4, H5⟩ := H3
    refine V.bald dX9_at_13 hm.2.2.2.2.2.2.2.1 o4 ?_
    refine V.goto (tgt := 18) dX9_at_14 (by decide) ?_
    exact V.ret (v := some (.int (I (m + 7) a.toNatClampNeg))) rfl (Or.inl ⟨_, rfl, dX9_at_18, _, rfl, rfl⟩) ⟨Nat.le_refl _, Nat.le_refl _⟩ H5
set_option maxRecDepth 100000 in
set_option maxHeartbeats 4000000 in
theorem wp_X9_broken {S : List mjD} {RET : Option Value → mjH → Prop} {m : Nat} (hm : is_Model S m) {a : Int32} {I : Nat → Nat → Int32} {L : Nat → Nat → Int64} (H0 : RET (some (.int a)) (S, mj_up I m 12 (1 : Int32), L)) : CT mr_X9_broken (0, 0) [.ref m, .int a] (S, I, L) RET := by
  refine CT.of (lo := [(0, .ref m), (1, .int a)]) (by decide) (fun _ _ => Nat.le_of_ble_eq_true rfl) (fun _ _ => rfl) rfl ?_
  refine V.aload_n dX9_broken_0 rfl rfl ?_
  refine V.iconst (v := (1)) dX9_broken_1 (by decide) ?_
  refine V.puti dX9_broken_2 fl_X9_128 fp_X9_128 (Or.inr rfl) hm.1 (by decide) (by decide) (by decide) ?_
  refine V.iload_n dX9_broken_5 rfl rfl ?_
  exact V.ret (v := some (.int a)) rfl (Or.inl ⟨_, rfl, dX9_broken_6, _, rfl, rfl⟩) ⟨Nat.le_refl _, Nat.le_refl _⟩ H0
set_option maxRecDepth 100000 in
set_option maxHeartbeats 4000000 in
theorem wp_X9_kindBy {S : List mjD} {RET : Option Value → mjH → Prop} {a : Int32} {I : Nat → Nat → Int32} {L : Nat → Nat → Int64} (H0 : ((a = 102 → RET (some (.int (2 : Int32))) (S, I, L)) ∧ (a = 103 → RET (some (.int (-1 : Int32))) (S, I, L)) ∧ (a = 104 → RET (some (.int (-1 : Int32))) (S, I, L)) ∧ (a = 105 → RET (some (.int (-1 : Int32))) (S, I, L)) ∧ (a = 106 → RET (some (.int (-1 : Int32))) (S, I, L)) ∧ (a = 107 → RET (some (.int (-1 : Int32))) (S, I, L)) ∧ (a = 108 → RET (some (.int (-1 : Int32))) (S, I, L)) ∧ (a = 109 → RET (some (.int (4 : Int32))) (S, I, L)) ∧ (a = 110 → RET (some (.int (-1 : Int32))) (S, I, L)) ∧ (a = 111 → RET (some (.int (-1 : Int32))) (S, I, L)) ∧ (a = 112 → RET (some (.int (1 : Int32))) (S, I, L)) ∧ (a = 113 → RET (some (.int (-1 : Int32))) (S, I, L)) ∧ (a = 114 → RET (some (.int (-1 : Int32))) (S, I, L)) ∧ (a = 115 → RET (some (.int (0 : Int32))) (S, I, L)) ∧ (a = 116 → RET (some (.int (3 : Int32))) (S, I, L)) ∧ (a.toInt < 102 ∨ 116 < a.toInt → RET (some (.int (-1 : Int32))) (S, I, L)))) : CT mr_X9_kindBy (0, 0) [.int a] (S, I, L) RET := by
  refine CT.of (lo := [(0, .int a)]) (by decide) (fun _ _ => Nat.le_of_ble_eq_true rfl) (fun _ _ => rfl) rfl ?_
  refine V.iload_n dX9_kindBy_0 rfl rfl ?_
  rcases mj_sw_102_116 a with c1 | c1 | c1 | c1 | c1 | c1 | c1 | c1 | c1 | c1 | c1 | c1 | c1 | c1 | c1 | c1
  · have H3 := H0.1 c1
    refine V.tableIn (off := 79) (tgt := 80) dX9_kindBy_1 (by rw [c1]; decide) (by rw [c1]; decide) (by rw [c1]; rfl) (by decide) ?_
    refine V.iconst (v := (2)) dX9_kindBy_80 (by decide) ?_
    exact V.ret (v := some (.int (2 : Int32))) rfl (Or.inl ⟨_, rfl, dX9_kindBy_81, _, rfl, rfl⟩) ⟨Nat.le_refl _, Nat.le_refl _⟩ H3
  · have H4 := H0.2.1 c1
    refine V.tableIn (off := 85) (tgt := 86) dX9_kindBy_1 (by rw [c1]; decide) (by rw [c1]; decide) (by rw [c1]; rfl) (by decide) ?_
    refine V.iconst (v := (-1)) dX9_kindBy_86 (by decide) ?_
    exact V.ret (v := some (.int (-1 : Int32))) rfl (Or.inl ⟨_, rfl, dX9_kindBy_87, _, rfl, rfl⟩) ⟨Nat.le_refl _, Nat.le_refl _⟩ H4
  · have H5 := H0.2.2.1 c1
    refine V.tableIn (off := 85) (tgt := 86) dX9_kindBy_1 (by rw [c1]; decide) (by rw [c1]; decide) (by rw [c1]; rfl) (by decide) ?_
    refine V.iconst (v := (-1)) dX9_kindBy_86 (by decide) ?_
    exact V.ret (v := some (.int (-1 : Int32))) rfl (Or.inl ⟨_, rfl, dX9_kindBy_87, _, rfl, rfl⟩) ⟨Nat.le_refl _, Nat.le_refl _⟩ H5
  · have H6 := H0.2.2.2.1 c1
    refine V.tableIn (off := 85) (tgt := 86) dX9_kindBy_1 (by rw [c1]; decide) (by rw [c1]; decide) (by rw [c1]; rfl) (by decide) ?_
    refine V.iconst (v := (-1)) dX9_kindBy_86 (by decide) ?_
    exact V.ret (v := some (.int (-1 : Int32))) rfl (Or.inl ⟨_, rfl, dX9_kindBy_87, _, rfl, rfl⟩) ⟨Nat.le_refl _, Nat.le_refl _⟩ H6
  · have H7 := H0.2.2.2.2.1 c1
    refine V.tableIn (off := 85) (tgt := 86) dX9_kindBy_1 (by rw [c1]; decide) (by rw [c1]; decide) (by rw [c1]; rfl) (by decide) ?_
    refine V.iconst (v := (-1)) dX9_kindBy_86 (by decide) ?_
    exact V.ret (v := some (.int (-1 : Int32))) rfl (Or.inl ⟨_, rfl, dX9_kindBy_87, _, rfl, rfl⟩) ⟨Nat.le_refl _, Nat.le_refl _⟩ H7
  · have H8 := H0.2.2.2.2.2.1 c1
    refine V.tableIn (off := 85) (tgt := 86) dX9_kindBy_1 (by rw [c1]; decide) (by rw [c1]; decide) (by rw [c1]; rfl) (by decide) ?_
    refine V.iconst (v := (-1)) dX9_kindBy_86 (by decide) ?_
    exact V.ret (v := some (.int (-1 : Int32))) rfl (Or.inl ⟨_, rfl, dX9_kindBy_87, _, rfl, rfl⟩) ⟨Nat.le_refl _, Nat.le_refl _⟩ H8
  · have H9 := H0.2.2.2.2.2.2.1 c1
    refine V.tableIn (off := 85) (tgt := 86) dX9_kindBy_1 (by rw [c1]; decide) (by rw [c1]; decide) (by rw [c1]; rfl) (by decide) ?_
    refine V.iconst (v := (-1)) dX9_kindBy_86 (by decide) ?_
    exact V.ret (v := some (.int (-1 : Int32))) rfl (Or.inl ⟨_, rfl, dX9_kindBy_87, _, rfl, rfl⟩) ⟨Nat.le_refl _, Nat.le_refl _⟩ H9
  · have H10 := H0.2.2.2.2.2.2.2.1 c1
    refine V.tableIn (off := 83) (tgt := 84) dX9_kindBy_1 (by rw [c1]; decide) (by rw [c1]; decide) (by rw [c1]; rfl) (by decide) ?_
    refine V.iconst (v := (4)) dX9_kindBy_84 (by decide) ?_
    exact V.ret (v := some (.int (4 : Int32))) rfl (Or.inl ⟨_, rfl, dX9_kindBy_85, _, rfl, rfl⟩) ⟨Nat.le_refl _, Nat.le_refl _⟩ H10
  · have H11 := H0.2.2.2.2.2.2.2.2.1 c1
    refine V.tableIn (off := 85) (tgt := 86) dX9_kindBy_1 (by rw [c1]; decide) (by rw [c1]; decide) (by rw [c1]; rfl) (by decide) ?_
    refine V.iconst (v := (-1)) dX9_kindBy_86 (by decide) ?_
    exact V.ret (v := some (.int (-1 : Int32))) rfl (Or.inl ⟨_, rfl, dX9_kindBy_87, _, rfl, rfl⟩) ⟨Nat.le_refl _, Nat.le_refl _⟩ H11
  · have H12 := H0.2.2.2.2.2.2.2.2.2.1 c1
    refine V.tableIn (off := 85) (tgt := 86) dX9_kindBy_1 (by rw [c1]; decide) (by rw [c1]; decide) (by rw [c1]; rfl) (by decide) ?_
    refine V.iconst (v := (-1)) dX9_kindBy_86 (by decide) ?_
    exact V.ret (v := some (.int (-1 : Int32))) rfl (Or.inl ⟨_, rfl, dX9_kindBy_87, _, rfl, rfl⟩) ⟨Nat.le_refl _, Nat.le_refl _⟩ H12
  · have H13 := H0.2.2.2.2.2.2.2.2.2.2.1 c1
    refine V.tableIn (off := 77) (tgt := 78) dX9_kindBy_1 (by rw [c1]; decide) (by rw [c1]; decide) (by rw [c1]; rfl) (by decide) ?_
    refine V.iconst (v := (1)) dX9_kindBy_78 (by decide) ?_
    exact V.ret (v := some (.int (1 : Int32))) rfl (Or.inl ⟨_, rfl, dX9_kindBy_79, _, rfl, rfl⟩) ⟨Nat.le_refl _, Nat.le_refl _⟩ H13
  · have H14 := H0.2.2.2.2.2.2.2.2.2.2.2.1 c1
    refine V.tableIn (off := 85) (tgt := 86) dX9_kindBy_1 (by rw [c1]; decide) (by rw [c1]; decide) (by rw [c1]; rfl) (by decide) ?_
    refine V.iconst (v := (-1)) dX9_kindBy_86 (by decide) ?_
    exact V.ret (v := some (.int (-1 : Int32))) rfl (Or.inl ⟨_, rfl, dX9_kindBy_87, _, rfl, rfl⟩) ⟨Nat.le_refl _, Nat.le_refl _⟩ H14
  · have H15 := H0.2.2.2.2.2.2.2.2.2.2.2.2.1 c1
    refine V.tableIn (off := 85) (tgt := 86) dX9_kindBy_1 (by rw [c1]; decide) (by rw [c1]; decide) (by rw [c1]; rfl) (by decide) ?_
    refine V.iconst (v := (-1)) dX9_kindBy_86 (by decide) ?_
    exact V.ret (v := some (.int (-1 : Int32))) rfl (Or.inl ⟨_, rfl, dX9_kindBy_87, _, rfl, rfl⟩) ⟨Nat.le_refl _, Nat.le_refl _⟩ H15
  · have H16 := H0.2.2.2.2.2.2.2.2.2.2.2.2.2.1 c1
    refine V.tableIn (off := 75) (tgt := 76) dX9_kindBy_1 (by rw [c1]; decide) (by rw [c1]; decide) (by rw [c1]; rfl) (by decide) ?_
    refine V.iconst (v := (0)) dX9_kindBy_76 (by decide) ?_
    exact V.ret (v := some (.int (0 : Int32))) rfl (Or.inl ⟨_, rfl, dX9_kindBy_77, _, rfl, rfl⟩) ⟨Nat.le_refl _, Nat.le_refl _⟩ H16
  · have H17 := H0.2.2.2.2.2.2.2.2.2.2.2.2.2.2.1 c1
    refine V.tableIn (off := 81) (tgt := 82) dX9_kindBy_1 (by rw [c1]; decide) (by rw [c1]; decide) (by rw [c1]; rfl) (by decide) ?_
    refine V.iconst (v := (3)) dX9_kindBy_82 (by decide) ?_
    exact V.ret (v := some (.int (3 : Int32))) rfl (Or.inl ⟨_, rfl, dX9_kindBy_83, _, rfl, rfl⟩) ⟨Nat.le_refl _, Nat.le_refl _⟩ H17
  · have H18 := H0.2.2.2.2.2.2.2.2.2.2.2.2.2.2.2 c1
    refine V.tableOut (tgt := 86) dX9_kindBy_1 c1 (by decide) ?_
    refine V.iconst (v := (-1)) dX9_kindBy_86 (by decide) ?_
    exact V.ret (v := some (.int (-1 : Int32))) rfl (Or.inl ⟨_, rfl, dX9_kindBy_87, _, rfl, rfl⟩) ⟨Nat.le_refl _, Nat.le_refl _⟩ H18
set_option maxRecDepth 100000 in
set_option maxHeartbeats 4000000 in
theorem wp_X9_degreeBy {S : List mjD} {RET : Option Value → mjH → Prop} {a : Int64} {b : Int64} {c : Int64} {e : Int64} {f : Int64} {g : Int64} {I : Nat → Nat → Int32} {L : Nat → Nat → Int64} (H0 : ((g = (0 : Int64) → ((f = (0 : Int64) → ((e = (0 : Int64) → ((c = (0 : Int64) → ((b = (0 : Int64) → ((a = (0 : Int64) → RET (some (.int (-1 : Int32))) (S, I, L)) ∧ (¬ a = (0 : Int64) → RET (some (.int (0 : Int32))) (S, I, L)))) ∧ (¬ b = (0 : Int64) → RET (some (.int (1 : Int32))) (S, I, L)))) ∧ (¬ c = (0 : Int64) → RET (some (.int (2 : Int32))) (S, I, L)))) ∧ (¬ e = (0 : Int64) → RET (some (.int (3 : Int32))) (S, I, L)))) ∧ (¬ f = (0 : Int64) → RET (some (.int (4 : Int32))) (S, I, L)))) ∧ (¬ g = (0 : Int64) → RET (some (.int (5 : Int32))) (S, I, L)))) : CT mr_X9_degreeBy (0, 0) [.long a, .long b, .long c, .long e, .long f, .long g] (S, I, L) RET := by
  refine CT.of (lo := [(0, .long a), (2, .long b), (4, .long c), (6, .long e), (8, .long f), (10, .long g)]) (by decide) (fun _ _ => Nat.le_of_ble_eq_true rfl) (fun _ _ => rfl) rfl ?_
  refine V.lload dX9_degreeBy_0 rfl ?_
  refine V.lconst (v := 0) dX9_degreeBy_2 (by decide) ?_
  refine V.lc_eq (tgt := 11) dX9_degreeBy_3 dX9_degreeBy_4 (by decide) (fun c1 => ?_) (fun c1 => ?_)
  · have H2 := H0.1 c1
    refine V.lload dX9_degreeBy_11 rfl ?_
    refine V.lconst (v := 0) dX9_degreeBy_13 (by decide) ?_
    refine V.lc_eq (tgt := 22) dX9_degreeBy_14 dX9_degreeBy_15 (by decide) (fun c3 => ?_) (fun c3 => ?_)
    · have H4 := H2.1 c3
      refine V.lload dX9_degreeBy_22 rfl ?_
      refine V.lconst (v := 0) dX9_degreeBy_24 (by decide) ?_
      refine V.lc_eq (tgt := 33) dX9_degreeBy_25 dX9_degreeBy_26 (by decide) (fun c5 => ?_) (fun c5 => ?_)
      · have H6 := H4.1 c5
        refine V.lload dX9_degreeBy_33 rfl ?_
        refine V.lconst (v := 0) dX9_degreeBy_35 (by decide) ?_
        refine V.lc_eq (tgt := 44) dX9_degreeBy_36 dX9_degreeBy_37 (by decide) (fun c7 => ?_) (fun c7 => ?_)
        · have H8 := H6.1 c7
          refine V.lload_n dX9_degreeBy_44 rfl rfl ?_
          refine V.lconst (v := 0) dX9_degreeBy_45 (by decide) ?_
          refine V.lc_eq (tgt := 54) dX9_degreeBy_46 dX9_degreeBy_47 (by decide) (fun c9 => ?_) (fun c9 => ?_)
          · have H10 := H8.1 c9
            refine V.lload_n dX9_degreeBy_54 rfl rfl ?_
            refine V.lconst (v := 0) dX9_degreeBy_55 (by decide) ?_
            refine V.lc_eq (tgt := 64) dX9_degreeBy_56 dX9_degreeBy_57 (by decide) (fun c11 => ?_) (fun c11 => ?_)
            · have H12 := H10.1 c11
              refine V.iconst (v := (-1)) dX9_degreeBy_64 (by decide) ?_
              exact V.ret (v := some (.int (-1 : Int32))) rfl (Or.inl ⟨_, rfl, dX9_degreeBy_65, _, rfl, rfl⟩) ⟨Nat.le_refl _, Nat.le_refl _⟩ H12
            · have H13 := H10.2 c11
              refine V.iconst (v := (0)) dX9_degreeBy_60 (by decide) ?_
              refine V.goto (tgt := 65) dX9_degreeBy_61 (by decide) ?_
              exact V.ret (v := some (.int (0 : Int32))) rfl (Or.inl ⟨_, rfl, dX9_degreeBy_65, _, rfl, rfl⟩) ⟨Nat.le_refl _, Nat.le_refl _⟩ H13
          · have H14 := H8.2 c9
            refine V.iconst (v := (1)) dX9_degreeBy_50 (by decide) ?_
            refine V.goto (tgt := 65) dX9_degreeBy_51 (by decide) ?_
            exact V.ret (v := some (.int (1 : Int32))) rfl (Or.inl ⟨_, rfl, dX9_degreeBy_65, _, rfl, rfl⟩) ⟨Nat.le_refl _, Nat.le_refl _⟩ H14
        · have H15 := H6.2 c7
          refine V.iconst (v := (2)) dX9_degreeBy_40 (by decide) ?_
          refine V.goto (tgt := 65) dX9_degreeBy_41 (by decide) ?_
          exact V.ret (v := some (.int (2 : Int32))) rfl (Or.inl ⟨_, rfl, dX9_degreeBy_65, _, rfl, rfl⟩) ⟨Nat.le_refl _, Nat.le_refl _⟩ H15
      · have H16 := H4.2 c5
        refine V.iconst (v := (3)) dX9_degreeBy_29 (by decide) ?_
        refine V.goto (tgt := 65) dX9_degreeBy_30 (by decide) ?_
        exact V.ret (v := some (.int (3 : Int32))) rfl (Or.inl ⟨_, rfl, dX9_degreeBy_65, _, rfl, rfl⟩) ⟨Nat.le_refl _, Nat.le_refl _⟩ H16
    · have H17 := H2.2 c3
      refine V.iconst (v := (4)) dX9_degreeBy_18 (by decide) ?_
      refine V.goto (tgt := 65) dX9_degreeBy_19 (by decide) ?_
      exact V.ret (v := some (.int (4 : Int32))) rfl (Or.inl ⟨_, rfl, dX9_degreeBy_65, _, rfl, rfl⟩) ⟨Nat.le_refl _, Nat.le_refl _⟩ H17
  · have H18 := H0.2 c1
    refine V.iconst (v := (5)) dX9_degreeBy_7 (by decide) ?_
    refine V.goto (tgt := 65) dX9_degreeBy_8 (by decide) ?_
    exact V.ret (v := some (.int (5 : Int32))) rfl (Or.inl ⟨_, rfl, dX9_degreeBy_65, _, rfl, rfl⟩) ⟨Nat.le_refl _, Nat.le_refl _⟩ H18
def hd_X9_divides_2 (S : List mjD) (RET : Option Value → mjH → Prop) (a0 : Nat) (x1 : Int32) (I : Nat → Nat → Int32) (L : Nat → Nat → Int64) : Prop := V mr_X9_divides (0, 0) RET 2 [(0, .ref a0), (1, .int x1)] [] (S, I, L) (0, 0)
def hd_X9_divides_38 (S : List mjD) (RET : Option Value → mjH → Prop) (a0 : Nat) (x1 : Int32) (I : Nat → Nat → Int32) (L : Nat → Nat → Int64) : Prop := V mr_X9_divides (0, 0) RET 38 [(0, .ref a0), (1, .int x1)] [] (S, I, L) (0, 0)
def hd_X9_divides_152 (S : List mjD) (RET : Option Value → mjH → Prop) (a0 : Nat) (x1 : Int32) (x2 : Int32) (I : Nat → Nat → Int32) (L : Nat → Nat → Int64) : Prop := V mr_X9_divides (0, 0) RET 152 [(0, .ref a0), (1, .int x1), (2, .int x2)] [] (S, I, L) (0, 0)
def hd_X9_divides_101 (S : List mjD) (RET : Option Value → mjH → Prop) (a0 : Nat) (x1 : Int32) (x2 : Int64) (x4 : Int32) (I : Nat → Nat → Int32) (L : Nat → Nat → Int64) : Prop := V mr_X9_divides (0, 0) RET 101 [(0, .ref a0), (1, .int x1), (2, .long x2), (4, .int x4)] [] (S, I, L) (0, 0)
set_option maxRecDepth 100000 in
set_option maxHeartbeats 4000000 in
theorem it_X9_divides_2 {S : List mjD} {RET : Option Value → mjH → Prop} {a0 : Nat} (h0 : is_Model S a0) {x1 : Int32} {I : Nat → Nat → Int32} {L : Nat → Nat → Int64} (H0 : (((6 : Int32) ≤ x1 → ∀ y3 : Int32, y3 = (I a0 24) → hd_X9_divides_38 S RET a0 y3 I L) ∧ (¬ (6 : Int32) ≤ x1 → (vp_in x1 6) ∧ (vp_in x1 6) ∧ (vp_in x1 6) ∧ ∀ y13 : Int32, y13 = x1 + 1 → hd_X9_divides_2 S RET a0 y13 I (mj_up (mj_up L (a0 + 17) x1.toNatClampNeg (L (a0 + 14) x1.toNatClampNeg)) (a0 + 16) x1.toNatClampNeg (0 : Int64))))) : hd_X9_divides_2 S RET a0 x1 I L := by
  unfold hd_X9_divides_2
  refine V.iload_n dX9_divides_2 rfl rfl ?_
  refine V.bipush (v := (6)) dX9_divides_3 (by decide) ?_
  refine V.icmp_ge (tgt := 33) dX9_divides_5 (by decide) (fun c1 => ?_) (fun c1 => ?_)
  · have H2 := H0.1 c1
    refine V.aload_n dX9_divides_33 rfl rfl ?_
    refine V.getf (v := .int (I a0 24)) dX9_divides_34 fl_X9_185 h0.1 (by decide) rfl ?_
    refine V.topi (fun y3 e4 => ?_)
    have H5 := H2 y3 e4
    refine V.istore_n (lo' := [(1, .int y3), (0, .ref a0)]) dX9_divides_37 rfl (by decide) rfl ?_
    exact V.los [1, 0] rfl H5
  · have H6 := H0.2 c1
    refine V.aload_n dX9_divides_8 rfl rfl ?_
    refine V.getf (v := .ref (a0 + 17)) dX9_divides_9 fl_X9_60 h0.1 (by decide) rfl ?_
    refine V.iload_n dX9_divides_12 rfl rfl ?_
    refine V.aload_n dX9_divides_13 rfl rfl ?_
    refine V.getf (v := .ref (a0 + 14)) dX9_divides_14 fl_X9_51 h0.1 (by decide) rfl ?_
    refine V.iload_n dX9_divides_17 rfl rfl ?_
    obtain ⟨o7, H8⟩ := H6
    refine V.lald dX9_divides_18 h0.2.2.2.2.2.2.2.2.2.2.2.2.2.2.1 o7 ?_
    obtain ⟨o9, H10⟩ := H8
    refine V.last dX9_divides_19 h0.2.2.2.2.2.2.2.2.2.2.2.2.2.2.2.2.2.1 o9 ?_
    refine V.aload_n dX9_divides_20 rfl rfl ?_
    refine V.getf (v := .ref (a0 + 16)) dX9_divides_21 fl_X9_57 h0.1 (by decide) rfl ?_
    refine V.iload_n dX9_divides_24 rfl rfl ?_
    refine V.lconst (v := 0) dX9_divides_25 (by decide) ?_
    obtain ⟨o11, H12⟩ := H10
    refine V.last dX9_divides_26 h0.2.2.2.2.2.2.2.2.2.2.2.2.2.2.2.2.1 o11 ?_
    obtain ⟨y13, e14⟩ : ∃ y : Int32, y = x1 + 1 := ⟨_, rfl⟩
    have H15 := H12 y13 e14
    refine V.iinc (v := y13) (lo' := [(1, .int y13), (0, .ref a0)]) dX9_divides_27 rfl (by rw [e14]; rfl) (by decide) rfl ?_
    refine V.goto (tgt := 2) dX9_divides_30 (by decide) ?_
    exact V.los [1, 0] rfl H15
set_option maxRecDepth 100000 in
set_option maxHeartbeats 4000000 in
theorem it_X9_divides_38 {S : List mjD} {RET : Option Value → mjH → Prop} {a0 : Nat} (h0 : is_Model S a0) {x1 : Int32} {I : Nat → Nat → Int32} {L : Nat → Nat → Int64} (H0 : ((x1 < (I a0 26) → hd_X9_divides_152 S RET a0 (1 : Int32) (0 : Int32) I L) ∧ (¬ x1 < (I a0 26) → (vp_in x1 6) ∧ (vp_in (I a0 26) 6) ∧ (¬ (L (a0 + 15) (I a0 26).toNatClampNeg) = 0) ∧ ((((L (a0 + 17) x1.toNatClampNeg) - (L (a0 + 17) x1.toNatClampNeg) / (L (a0 + 15) (I a0 26).toNatClampNeg) * (L (a0 + 15) (I a0 26).toNatClampNeg)) = (0 : Int64) → (vp_in x1 6) ∧ (vp_in (I a0 26) 6) ∧ (¬ (L (a0 + 15) (I a0 26).toNatClampNeg) = 0) ∧ ∀ y33 : Int64, y33 = ((L (a0 + 17) x1.toNatClampNeg) / (L (a0 + 15) (I a0 26).toNatClampNeg)) → (vp_in (x1 - (I a0 26)) 6) ∧ hd_X9_divides_101 S RET a0 x1 y33 (0 : Int32) I (mj_up L (a0 + 16) (x1 - (I a0 26)).toNatClampNeg y33)) ∧ (¬ ((L (a0 + 17) x1.toNatClampNeg) - (L (a0 + 17) x1.toNatClampNeg) / (L (a0 + 15) (I a0 26).toNatClampNeg) * (L (a0 + 15) (I a0 26).toNatClampNeg)) = (0 : Int64) → RET (some (.int (0 : Int32))) (S, I, L)))))) : hd_X9_divides_38 S RET a0 x1 I L := by
  unfold hd_X9_divides_38
  refine V.iload_n dX9_divides_38 rfl rfl ?_
  refine V.aload_n dX9_divides_39 rfl rfl ?_
  refine V.getf (v := .int (I a0 26)) dX9_divides_40 fl_X9_188 h0.1 (by decide) rfl ?_
  refine V.icmp_lt (tgt := 148) dX9_divides_43 (by decide) (fun c16 => ?_) (fun c16 => ?_)
  · have H17 := H0.1 c16
    refine V.iconst (v := (1)) dX9_divides_148 (by decide) ?_
    refine V.istore_n (lo' := [(1, .int (1 : Int32)), (0, .ref a0)]) dX9_divides_149 rfl (by decide) rfl ?_
    refine V.iconst (v := (0)) dX9_divides_150 (by decide) ?_
    refine V.istore_n (lo' := [(2, .int (0 : Int32)), (1, .int (1 : Int32)), (0, .ref a0)]) dX9_divides_151 rfl (by decide) rfl ?_
    exact V.los [2, 1, 0] rfl H17
  · have H18 := H0.2 c16
    refine V.aload_n dX9_divides_46 rfl rfl ?_
    refine V.getf (v := .ref (a0 + 17)) dX9_divides_47 fl_X9_60 h0.1 (by decide) rfl ?_
    refine V.iload_n dX9_divides_50 rfl rfl ?_
    obtain ⟨o19, H20⟩ := H18
    refine V.lald dX9_divides_51 h0.2.2.2.2.2.2.2.2.2.2.2.2.2.2.2.2.2.1 o19 ?_
    refine V.aload_n dX9_divides_52 rfl rfl ?_
    refine V.getf (v := .ref (a0 + 15)) dX9_divides_53 fl_X9_54 h0.1 (by decide) rfl ?_
    refine V.aload_n dX9_divides_56 rfl rfl ?_
    refine V.getf (v := .int (I a0 26)) dX9_divides_57 fl_X9_188 h0.1 (by decide) rfl ?_
    obtain ⟨o21, H22⟩ := H20
    refine V.lald dX9_divides_60 h0.2.2.2.2.2.2.2.2.2.2.2.2.2.2.2.1 o21 ?_
    obtain ⟨o23, H24⟩ := H22
    refine V.lrem dX9_divides_61 o23 ?_
    refine V.lconst (v := 0) dX9_divides_62 (by decide) ?_
    refine V.lc_eq (tgt := 69) dX9_divides_63 dX9_divides_64 (by decide) (fun c25 => ?_) (fun c25 => ?_)
    · have H26 := H24.1 c25
      refine V.aload_n dX9_divides_69 rfl rfl ?_
      refine V.getf (v := .ref (a0 + 17)) dX9_divides_70 fl_X9_60 h0.1 (by decide) rfl ?_
      refine V.iload_n dX9_divides_73 rfl rfl ?_
      obtain ⟨o27, H28⟩ := H26
      refine V.lald dX9_divides_74 h0.2.2.2.2.2.2.2.2.2.2.2.2.2.2.2.2.2.1 o27 ?_
      refine V.aload_n dX9_divides_75 rfl rfl ?_
      refine V.getf (v := .ref (a0 + 15)) dX9_divides_76 fl_X9_54 h0.1 (by decide) rfl ?_
      refine V.aload_n dX9_divides_79 rfl rfl ?_
      refine V.getf (v := .int (I a0 26)) dX9_divides_80 fl_X9_188 h0.1 (by decide) rfl ?_
      obtain ⟨o29, H30⟩ := H28
      refine V.lald dX9_divides_83 h0.2.2.2.2.2.2.2.2.2.2.2.2.2.2.2.1 o29 ?_
      obtain ⟨o31, H32⟩ := H30
      refine V.ldiv dX9_divides_84 o31 ?_
      refine V.topl (fun y33 e34 => ?_)
      have H35 := H32 y33 e34
      refine V.lstore_n (lo' := [(2, .long y33), (0, .ref a0), (1, .int x1)]) dX9_divides_85 rfl (by decide) rfl ?_
      refine V.aload_n dX9_divides_86 rfl rfl ?_
      refine V.getf (v := .ref (a0 + 16)) dX9_divides_87 fl_X9_57 h0.1 (by decide) rfl ?_
      refine V.iload_n dX9_divides_90 rfl rfl ?_
      refine V.aload_n dX9_divides_91 rfl rfl ?_
      refine V.getf (v := .int (I a0 26)) dX9_divides_92 fl_X9_188 h0.1 (by decide) rfl ?_
      refine V.isub dX9_divides_95 ?_
      refine V.lload_n dX9_divides_96 rfl rfl ?_
      obtain ⟨o36, H37⟩ := H35
      refine V.last dX9_divides_97 h0.2.2.2.2.2.2.2.2.2.2.2.2.2.2.2.2.1 o36 ?_
      refine V.iconst (v := (0)) dX9_divides_98 (by decide) ?_
      refine V.istore (lo' := [(4, .int (0 : Int32)), (2, .long y33), (0, .ref a0), (1, .int x1)]) dX9_divides_99 (by decide) rfl ?_
      exact V.los [2, 3, 1, 0] rfl H37
    · have H38 := H24.2 c25
      refine V.iconst (v := (0)) dX9_divides_67 (by decide) ?_
      exact V.ret (v := some (.int (0 : Int32))) rfl (Or.inl ⟨_, rfl, dX9_divides_68, _, rfl, (by decide)⟩) ⟨Nat.le_refl _, Nat.le_refl _⟩ H38
set_option maxRecDepth 100000 in
set_option maxHeartbeats 4000000 in
theorem it_X9_divides_152 {S : List mjD} {RET : Option Value → mjH → Prop} {a0 : Nat} (h0 : is_Model S a0) {x1 : Int32} {x2 : Int32} {I : Nat → Nat → Int32} {L : Nat → Nat → Int64} (H0 : (((I a0 26) ≤ x2 → (x1 = 0 ∨ x1 = 1) ∧ RET (some (.int x1)) (S, I, L)) ∧ (¬ (I a0 26) ≤ x2 → ((x1 = 0 → ∀ y46 : Int32, y46 = x2 + 1 → hd_X9_divides_152 S RET a0 (0 : Int32) y46 I L) ∧ (¬ x1 = 0 → (vp_in x2 6) ∧ ((¬ (L (a0 + 17) x2.toNatClampNeg) = (0 : Int64) → ∀ y54 : Int32, y54 = x2 + 1 → hd_X9_divides_152 S RET a0 (0 : Int32) y54 I L) ∧ ((L (a0 + 17) x2.toNatClampNeg) = (0 : Int64) → ∀ y58 : Int32, y58 = x2 + 1 → hd_X9_divides_152 S RET a0 (1 : Int32) y58 I L))))))) : hd_X9_divides_152 S RET a0 x1 x2 I L := by
  unfold hd_X9_divides_152
  refine V.iload_n dX9_divides_152 rfl rfl ?_
  refine V.aload_n dX9_divides_153 rfl rfl ?_
  refine V.getf (v := .int (I a0 26)) dX9_divides_154 fl_X9_188 h0.1 (by decide) rfl ?_
  refine V.icmp_ge (tgt := 187) dX9_divides_157 (by decide) (fun c39 => ?_) (fun c39 => ?_)
  · have H40 := H0.1 c39
    refine V.iload_n dX9_divides_187 rfl rfl ?_
    obtain ⟨o41, H42⟩ := H40
    exact V.ret (v := some (.int x1)) rfl (Or.inl ⟨_, rfl, dX9_divides_188, _, rfl, (mj_zn o41)⟩) ⟨Nat.le_refl _, Nat.le_refl _⟩ H42
  · have H43 := H0.2 c39
    refine V.iload_n dX9_divides_160 rfl rfl ?_
    refine V.if_eq (tgt := 179) dX9_divides_161 (by decide) (fun c44 => ?_) (fun c44 => ?_)
    · have H45 := H43.1 c44
      refine V.iconst (v := (0)) dX9_divides_179 (by decide) ?_
      refine V.istore_n (lo' := [(1, .int (0 : Int32)), (0, .ref a0), (2, .int x2)]) dX9_divides_180 rfl (by decide) rfl ?_
      obtain ⟨y46, e47⟩ : ∃ y : Int32, y = x2 + 1 := ⟨_, rfl⟩
      have H48 := H45 y46 e47
      refine V.iinc (v := y46) (lo' := [(2, .int y46), (1, .int (0 : Int32)), (0, .ref a0)]) dX9_divides_181 rfl (by rw [e47]; rfl) (by decide) rfl ?_
      refine V.goto (tgt := 152) dX9_divides_184 (by decide) ?_
      exact V.los [2, 1, 0] rfl H48
    · have H49 := H43.2 c44
      refine V.aload_n dX9_divides_164 rfl rfl ?_
      refine V.getf (v := .ref (a0 + 17)) dX9_divides_165 fl_X9_60 h0.1 (by decide) rfl ?_
      refine V.iload_n dX9_divides_168 rfl rfl ?_
      obtain ⟨o50, H51⟩ := H49
      refine V.lald dX9_divides_169 h0.2.2.2.2.2.2.2.2.2.2.2.2.2.2.2.2.2.1 o50 ?_
      refine V.lconst (v := 0) dX9_divides_170 (by decide) ?_
      refine V.lc_ne (tgt := 179) dX9_divides_171 dX9_divides_172 (by decide) (fun c52 => ?_) (fun c52 => ?_)
      · have H53 := H51.1 c52
        refine V.iconst (v := (0)) dX9_divides_179 (by decide) ?_
        refine V.istore_n (lo' := [(1, .int (0 : Int32)), (0, .ref a0), (2, .int x2)]) dX9_divides_180 rfl (by decide) rfl ?_
        obtain ⟨y54, e55⟩ : ∃ y : Int32, y = x2 + 1 := ⟨_, rfl⟩
        have H56 := H53 y54 e55
        refine V.iinc (v := y54) (lo' := [(2, .int y54), (1, .int (0 : Int32)), (0, .ref a0)]) dX9_divides_181 rfl (by rw [e55]; rfl) (by decide) rfl ?_
        refine V.goto (tgt := 152) dX9_divides_184 (by decide) ?_
        exact V.los [2, 1, 0] rfl H56
      · have H57 := H51.2 c52
        refine V.iconst (v := (1)) dX9_divides_175 (by decide) ?_
        refine V.goto (tgt := 180) dX9_divides_176 (by decide) ?_
        refine V.istore_n (lo' := [(1, .int (1 : Int32)), (0, .ref a0), (2, .int x2)]) dX9_divides_180 rfl (by decide) rfl ?_
        obtain ⟨y58, e59⟩ : ∃ y : Int32, y = x2 + 1 := ⟨_, rfl⟩
        have H60 := H57 y58 e59
        refine V.iinc (v := y58) (lo' := [(2, .int y58), (1, .int (1 : Int32)), (0, .ref a0)]) dX9_divides_181 rfl (by rw [e59]; rfl) (by decide) rfl ?_
        refine V.goto (tgt := 152) dX9_divides_184 (by decide) ?_
        exact V.los [2, 1, 0] rfl H60
set_option maxRecDepth 100000 in
set_option maxHeartbeats 4000000 in
theorem it_X9_divides_101 {S : List mjD} {RET : Option Value → mjH → Prop} {a0 : Nat} (h0 : is_Model S a0) {x1 : Int32} {x2 : Int64} {x4 : Int32} {I : Nat → Nat → Int32} {L : Nat → Nat → Int64} (H0 : (((I a0 26) < x4 → ∀ y63 : Int32, y63 = x1 + (-1) → hd_X9_divides_38 S RET a0 y63 I L) ∧ (¬ (I a0 26) < x4 → (vp_in ((x1 - (I a0 26)) + x4) 6) ∧ (vp_in x4 6) ∧ (vp_in ((x1 - (I a0 26)) + x4) 6) ∧ ∀ y73 : Int32, y73 = x4 + 1 → hd_X9_divides_101 S RET a0 x1 x2 y73 I (mj_up L (a0 + 17) ((x1 - (I a0 26)) + x4).toNatClampNeg ((L (a0 + 17) ((x1 - (I a0 26)) + x4).toNatClampNeg) - (x2 * (L (a0 + 15) x4.toNatClampNeg))))))) : hd_X9_divides_101 S RET a0 x1 x2 x4 I L := by
  unfold hd_X9_divides_101
  refine V.iload dX9_divides_101 rfl ?_
  refine V.aload_n dX9_divides_103 rfl rfl ?_
  refine V.getf (v := .int (I a0 26)) dX9_divides_104 fl_X9_188 h0.1 (by decide) rfl ?_
  refine V.icmp_gt (tgt := 142) dX9_divides_107 (by decide) (fun c61 => ?_) (fun c61 => ?_)
  · have H62 := H0.1 c61
    obtain ⟨y63, e64⟩ : ∃ y : Int32, y = x1 + (-1) := ⟨_, rfl⟩
    have H65 := H62 y63 e64
    refine V.iinc (v := y63) (lo' := [(1, .int y63), (0, .ref a0), (2, .long x2), (4, .int x4)]) dX9_divides_142 rfl (by rw [e64]; rfl) (by decide) rfl ?_
    refine V.goto (tgt := 38) dX9_divides_145 (by decide) ?_
    exact V.los [1, 0] rfl H65
  · have H66 := H0.2 c61
    refine V.aload_n dX9_divides_110 rfl rfl ?_
    refine V.getf (v := .ref (a0 + 17)) dX9_divides_111 fl_X9_60 h0.1 (by decide) rfl ?_
    refine V.iload_n dX9_divides_114 rfl rfl ?_
    refine V.aload_n dX9_divides_115 rfl rfl ?_
    refine V.getf (v := .int (I a0 26)) dX9_divides_116 fl_X9_188 h0.1 (by decide) rfl ?_
    refine V.isub dX9_divides_119 ?_
    refine V.iload dX9_divides_120 rfl ?_
    refine V.iadd dX9_divides_122 ?_
    refine V.dup2 dX9_divides_123 rfl rfl ?_
    obtain ⟨o67, H68⟩ := H66
    refine V.lald dX9_divides_124 h0.2.2.2.2.2.2.2.2.2.2.2.2.2.2.2.2.2.1 o67 ?_
    refine V.lload_n dX9_divides_125 rfl rfl ?_
    refine V.aload_n dX9_divides_126 rfl rfl ?_
    refine V.getf (v := .ref (a0 + 15)) dX9_divides_127 fl_X9_54 h0.1 (by decide) rfl ?_
    refine V.iload dX9_divides_130 rfl ?_
    obtain ⟨o69, H70⟩ := H68
    refine V.lald dX9_divides_132 h0.2.2.2.2.2.2.2.2.2.2.2.2.2.2.2.1 o69 ?_
    refine V.lmul dX9_divides_133 ?_
    refine V.lsub dX9_divides_134 ?_
    obtain ⟨o71, H72⟩ := H70
    refine V.last dX9_divides_135 h0.2.2.2.2.2.2.2.2.2.2.2.2.2.2.2.2.2.1 o71 ?_
    obtain ⟨y73, e74⟩ : ∃ y : Int32, y = x4 + 1 := ⟨_, rfl⟩
    have H75 := H72 y73 e74
    refine V.iinc (v := y73) (lo' := [(4, .int y73), (0, .ref a0), (1, .int x1), (2, .long x2)]) dX9_divides_136 rfl (by rw [e74]; rfl) (by decide) rfl ?_
    refine V.goto (tgt := 101) dX9_divides_139 (by decide) ?_
    exact V.los [1, 2, 3, 0] rfl H75
set_option maxRecDepth 100000 in
set_option maxHeartbeats 4000000 in
theorem wp_X9_divides {S : List mjD} {RET : Option Value → mjH → Prop} {m : Nat} (hm : is_Model S m) {I : Nat → Nat → Int32} {L : Nat → Nat → Int64} (H0 : hd_X9_divides_2 S RET m (0 : Int32) I L) : CT mr_X9_divides (0, 0) [.ref m] (S, I, L) RET := by
  refine CT.of (lo := [(0, .ref m)]) (by decide) (fun _ _ => Nat.le_of_ble_eq_true rfl) (fun _ _ => rfl) rfl ?_
  refine V.iconst (v := (0)) dX9_divides_0 (by decide) ?_
  refine V.istore_n (lo' := [(1, .int (0 : Int32)), (0, .ref m)]) dX9_divides_1 rfl (by decide) rfl ?_
  exact V.los [1, 0] rfl H0
def hd_X9_compareTo_30 (S : List mjD) (RET : Option Value → mjH → Prop) (a0 : Nat) (x1 : Int32) (x2 : Int32) (I : Nat → Nat → Int32) (L : Nat → Nat → Int64) : Prop := V mr_X9_compareTo (0, 0) RET 30 [(0, .ref a0), (1, .int x1), (2, .int x2)] [] (S, I, L) (0, 0)
set_option maxRecDepth 100000 in
set_option maxHeartbeats 4000000 in
theorem it_X9_compareTo_30 {S : List mjD} {RET : Option Value → mjH → Prop} {a0 : Nat} (h0 : is_Model S a0) {x1 : Int32} {x2 : Int32} {I : Nat → Nat → Int32} {L : Nat → Nat → Int64} (H0 : ((x2 < 0 → RET (some (.int (0 : Int32))) (S, I, L)) ∧ (¬ x2 < 0 → (vp_in x2 6) ∧ (vp_in (((6 : Int32) * x1) + x2) 36) ∧ (((L (a0 + 15) x2.toNatClampNeg) = (L (a0 + 11) (((6 : Int32) * x1) + x2).toNatClampNeg) → ∀ y20 : Int32, y20 = x2 + (-1) → hd_X9_compareTo_30 S RET a0 x1 y20 I L) ∧ (¬ (L (a0 + 15) x2.toNatClampNeg) = (L (a0 + 11) (((6 : Int32) * x1) + x2).toNatClampNeg) → (vp_in x2 6) ∧ (vp_in (((6 : Int32) * x1) + x2) 36) ∧ (((L (a0 + 11) (((6 : Int32) * x1) + x2).toNatClampNeg) ≤ (L (a0 + 15) x2.toNatClampNeg) → RET (some (.int (1 : Int32))) (S, I, L)) ∧ (¬ (L (a0 + 11) (((6 : Int32) * x1) + x2).toNatClampNeg) ≤ (L (a0 + 15) x2.toNatClampNeg) → RET (some (.int (-1 : Int32))) (S, I, L)))))))) : hd_X9_compareTo_30 S RET a0 x1 x2 I L := by
  unfold hd_X9_compareTo_30
  refine V.iload_n dX9_compareTo_30 rfl rfl ?_
  refine V.if_lt (tgt := 88) dX9_compareTo_31 (by decide) (fun c11 => ?_) (fun c11 => ?_)
  · have H12 := H0.1 c11
    refine V.iconst (v := (0)) dX9_compareTo_88 (by decide) ?_
    exact V.ret (v := some (.int (0 : Int32))) rfl (Or.inl ⟨_, rfl, dX9_compareTo_89, _, rfl, rfl⟩) ⟨Nat.le_refl _, Nat.le_refl _⟩ H12
  · have H13 := H0.2 c11
    refine V.aload_n dX9_compareTo_34 rfl rfl ?_
    refine V.getf (v := .ref (a0 + 15)) dX9_compareTo_35 fl_X9_54 h0.1 (by decide) rfl ?_
    refine V.iload_n dX9_compareTo_38 rfl rfl ?_
    obtain ⟨o14, H15⟩ := H13
    refine V.lald dX9_compareTo_39 h0.2.2.2.2.2.2.2.2.2.2.2.2.2.2.2.1 o14 ?_
    refine V.aload_n dX9_compareTo_40 rfl rfl ?_
    refine V.getf (v := .ref (a0 + 11)) dX9_compareTo_41 fl_X9_42 h0.1 (by decide) rfl ?_
    refine V.bipush (v := (6)) dX9_compareTo_44 (by decide) ?_
    refine V.iload_n dX9_compareTo_46 rfl rfl ?_
    refine V.imul dX9_compareTo_47 ?_
    refine V.iload_n dX9_compareTo_48 rfl rfl ?_
    refine V.iadd dX9_compareTo_49 ?_
    obtain ⟨o16, H17⟩ := H15
    refine V.lald dX9_compareTo_50 h0.2.2.2.2.2.2.2.2.2.2.2.1 o16 ?_
    refine V.lc_eq (tgt := 82) dX9_compareTo_51 dX9_compareTo_52 (by decide) (fun c18 => ?_) (fun c18 => ?_)
    · have H19 := H17.1 c18
      obtain ⟨y20, e21⟩ : ∃ y : Int32, y = x2 + (-1) := ⟨_, rfl⟩
      have H22 := H19 y20 e21
      refine V.iinc (v := y20) (lo' := [(2, .int y20), (0, .ref a0), (1, .int x1)]) dX9_compareTo_82 rfl (by rw [e21]; rfl) (by decide) rfl ?_
      refine V.goto (tgt := 30) dX9_compareTo_85 (by decide) ?_
      exact V.los [1, 2, 0] rfl H22
    · have H23 := H17.2 c18
      refine V.aload_n dX9_compareTo_55 rfl rfl ?_
      refine V.getf (v := .ref (a0 + 15)) dX9_compareTo_56 fl_X9_54 h0.1 (by decide) rfl ?_
      refine V.iload_n dX9_compareTo_59 rfl rfl ?_
      obtain ⟨o24, H25⟩ := H23
      refine V.lald dX9_compareTo_60 h0.2.2.2.2.2.2.2.2.2.2.2.2.2.2.2.1 o24 ?_
      refine V.aload_n dX9_compareTo_61 rfl rfl ?_
      refine V.getf (v := .ref (a0 + 11)) dX9_compareTo_62 fl_X9_42 h0.1 (by decide) rfl ?_
      refine V.bipush (v := (6)) dX9_compareTo_65 (by decide) ?_
      refine V.iload_n dX9_compareTo_67 rfl rfl ?_
      refine V.imul dX9_compareTo_68 ?_
      refine V.iload_n dX9_compareTo_69 rfl rfl ?_
      refine V.iadd dX9_compareTo_70 ?_
      obtain ⟨o26, H27⟩ := H25
      refine V.lald dX9_compareTo_71 h0.2.2.2.2.2.2.2.2.2.2.2.1 o26 ?_
      refine V.lc_ge (tgt := 80) dX9_compareTo_72 dX9_compareTo_73 (by decide) (fun c28 => ?_) (fun c28 => ?_)
      · have H29 := H27.1 c28
        refine V.iconst (v := (1)) dX9_compareTo_80 (by decide) ?_
        exact V.ret (v := some (.int (1 : Int32))) rfl (Or.inl ⟨_, rfl, dX9_compareTo_81, _, rfl, rfl⟩) ⟨Nat.le_refl _, Nat.le_refl _⟩ H29
      · have H30 := H27.2 c28
        refine V.iconst (v := (-1)) dX9_compareTo_76 (by decide) ?_
        refine V.goto (tgt := 81) dX9_compareTo_77 (by decide) ?_
        exact V.ret (v := some (.int (-1 : Int32))) rfl (Or.inl ⟨_, rfl, dX9_compareTo_81, _, rfl, rfl⟩) ⟨Nat.le_refl _, Nat.le_refl _⟩ H30
set_option maxRecDepth 100000 in
set_option maxHeartbeats 4000000 in
theorem wp_X9_compareTo {S : List mjD} {RET : Option Value → mjH → Prop} {m : Nat} (hm : is_Model S m) {a : Int32} {I : Nat → Nat → Int32} {L : Nat → Nat → Int64} (H0 : (vp_in a 6) ∧ (((I m 26) = (I (m + 13) a.toNatClampNeg) → ∀ y5 : Int32, y5 = (I m 26) → hd_X9_compareTo_30 S RET m a y5 I L) ∧ (¬ (I m 26) = (I (m + 13) a.toNatClampNeg) → (vp_in a 6) ∧ RET (some (.int ((I m 26) - (I (m + 13) a.toNatClampNeg)))) (S, I, L)))) : CT mr_X9_compareTo (0, 0) [.ref m, .int a] (S, I, L) RET := by
  refine CT.of (lo := [(0, .ref m), (1, .int a)]) (by decide) (fun _ _ => Nat.le_of_ble_eq_true rfl) (fun _ _ => rfl) rfl ?_
  refine V.aload_n dX9_compareTo_0 rfl rfl ?_
  refine V.getf (v := .int (I m 26)) dX9_compareTo_1 fl_X9_188 hm.1 (by decide) rfl ?_
  refine V.aload_n dX9_compareTo_4 rfl rfl ?_
  refine V.getf (v := .ref (m + 13)) dX9_compareTo_5 fl_X9_48 hm.1 (by decide) rfl ?_
  refine V.iload_n dX9_compareTo_8 rfl rfl ?_
  obtain ⟨o1, H2⟩ := H0
  refine V.iald dX9_compareTo_9 hm.2.2.2.2.2.2.2.2.2.2.2.2.2.1 o1 ?_
  refine V.icmp_eq (tgt := 25) dX9_compareTo_10 (by decide) (fun c3 => ?_) (fun c3 => ?_)
  · have H4 := H2.1 c3
    refine V.aload_n dX9_compareTo_25 rfl rfl ?_
    refine V.getf (v := .int (I m 26)) dX9_compareTo_26 fl_X9_188 hm.1 (by decide) rfl ?_
    refine V.topi (fun y5 e6 => ?_)
    have H7 := H4 y5 e6
    refine V.istore_n (lo' := [(2, .int y5), (0, .ref m), (1, .int a)]) dX9_compareTo_29 rfl (by decide) rfl ?_
    exact V.los [1, 2, 0] rfl H7
  · have H8 := H2.2 c3
    refine V.aload_n dX9_compareTo_13 rfl rfl ?_
    refine V.getf (v := .int (I m 26)) dX9_compareTo_14 fl_X9_188 hm.1 (by decide) rfl ?_
    refine V.aload_n dX9_compareTo_17 rfl rfl ?_
    refine V.getf (v := .ref (m + 13)) dX9_compareTo_18 fl_X9_48 hm.1 (by decide) rfl ?_
    refine V.iload_n dX9_compareTo_21 rfl rfl ?_
    obtain ⟨o9, H10⟩ := H8
    refine V.iald dX9_compareTo_22 hm.2.2.2.2.2.2.2.2.2.2.2.2.2.1 o9 ?_
    refine V.isub dX9_compareTo_23 ?_
    exact V.ret (v := some (.int ((I m 26) - (I (m + 13) a.toNatClampNeg)))) rfl (Or.inl ⟨_, rfl, dX9_compareTo_24, _, rfl, rfl⟩) ⟨Nat.le_refl _, Nat.le_refl _⟩ H10
def hd_X9_takeQuotient_15 (S : List mjD) (RET : Option Value → mjH → Prop) (a0 : Nat) (x1 : Int32) (I : Nat → Nat → Int32) (L : Nat → Nat → Int64) : Prop := V mr_X9_takeQuotient (0, 0) RET 15 [(0, .ref a0), (1, .int x1)] [] (S, I, L) (0, 0)
set_option maxRecDepth 100000 in
set_option maxHeartbeats 4000000 in
theorem it_X9_takeQuotient_15 {S : List mjD} {RET : Option Value → mjH → Prop} {a0 : Nat} (h0 : is_Model S a0) {x1 : Int32} {I : Nat → Nat → Int32} {L : Nat → Nat → Int64} (H0 : (((6 : Int32) ≤ x1 → RET none (S, I, L)) ∧ (¬ (6 : Int32) ≤ x1 → (vp_in x1 6) ∧ (vp_in x1 6) ∧ ∀ y8 : Int32, y8 = x1 + 1 → hd_X9_takeQuotient_15 S RET a0 y8 I (mj_up L (a0 + 14) x1.toNatClampNeg (L (a0 + 16) x1.toNatClampNeg))))) : hd_X9_takeQuotient_15 S RET a0 x1 I L := by
  unfold hd_X9_takeQuotient_15
  refine V.iload_n dX9_takeQuotient_15 rfl rfl ?_
  refine V.bipush (v := (6)) dX9_takeQuotient_16 (by decide) ?_
  refine V.icmp_ge (tgt := 39) dX9_takeQuotient_18 (by decide) (fun c1 => ?_) (fun c1 => ?_)
  · have H2 := H0.1 c1
    exact V.ret rfl (Or.inr (Or.inr (Or.inr ⟨rfl, dX9_takeQuotient_39, rfl⟩))) ⟨Nat.le_refl _, Nat.le_refl _⟩ H2
  · have H3 := H0.2 c1
    refine V.aload_n dX9_takeQuotient_21 rfl rfl ?_
    refine V.getf (v := .ref (a0 + 14)) dX9_takeQuotient_22 fl_X9_51 h0.1 (by decide) rfl ?_
    refine V.iload_n dX9_takeQuotient_25 rfl rfl ?_
    refine V.aload_n dX9_takeQuotient_26 rfl rfl ?_
    refine V.getf (v := .ref (a0 + 16)) dX9_takeQuotient_27 fl_X9_57 h0.1 (by decide) rfl ?_
    refine V.iload_n dX9_takeQuotient_30 rfl rfl ?_
    obtain ⟨o4, H5⟩ := H3
    refine V.lald dX9_takeQuotient_31 h0.2.2.2.2.2.2.2.2.2.2.2.2.2.2.2.2.1 o4 ?_
    obtain ⟨o6, H7⟩ := H5
    refine V.last dX9_takeQuotient_32 h0.2.2.2.2.2.2.2.2.2.2.2.2.2.2.1 o6 ?_
    obtain ⟨y8, e9⟩ : ∃ y : Int32, y = x1 + 1 := ⟨_, rfl⟩
    have H10 := H7 y8 e9
    refine V.iinc (v := y8) (lo' := [(1, .int y8), (0, .ref a0)]) dX9_takeQuotient_33 rfl (by rw [e9]; rfl) (by decide) rfl ?_
    refine V.goto (tgt := 15) dX9_takeQuotient_36 (by decide) ?_
    exact V.los [1, 0] rfl H10
set_option maxRecDepth 100000 in
set_option maxHeartbeats 4000000 in
theorem wp_X9_takeQuotient {S : List mjD} {RET : Option Value → mjH → Prop} {m : Nat} (hm : is_Model S m) {I : Nat → Nat → Int32} {L : Nat → Nat → Int64} (H0 : hd_X9_takeQuotient_15 S RET m (0 : Int32) (mj_up I m 24 ((I m 24) - (I m 26))) L) : CT mr_X9_takeQuotient (0, 0) [.ref m] (S, I, L) RET := by
  refine CT.of (lo := [(0, .ref m)]) (by decide) (fun _ _ => Nat.le_of_ble_eq_true rfl) (fun _ _ => rfl) rfl ?_
  refine V.aload_n dX9_takeQuotient_0 rfl rfl ?_
  refine V.dup dX9_takeQuotient_1 rfl ?_
  refine V.getf (v := .int (I m 24)) dX9_takeQuotient_2 fl_X9_185 hm.1 (by decide) rfl ?_
  refine V.aload_n dX9_takeQuotient_5 rfl rfl ?_
  refine V.getf (v := .int (I m 26)) dX9_takeQuotient_6 fl_X9_188 hm.1 (by decide) rfl ?_
  refine V.isub dX9_takeQuotient_9 ?_
  refine V.puti dX9_takeQuotient_10 fl_X9_185 fp_X9_185 (Or.inl rfl) hm.1 (by decide) rfl rfl ?_
  refine V.iconst (v := (0)) dX9_takeQuotient_13 (by decide) ?_
  refine V.istore_n (lo' := [(1, .int (0 : Int32)), (0, .ref m)]) dX9_takeQuotient_14 rfl (by decide) rfl ?_
  exact V.los [1, 0] rfl H0
def hd_X9_laySlot_2 (S : List mjD) (RET : Option Value → mjH → Prop) (a0 : Nat) (x1 : Int32) (x2 : Int32) (I : Nat → Nat → Int32) (L : Nat → Nat → Int64) : Prop := V mr_X9_laySlot (0, 0) RET 2 [(0, .ref a0), (1, .int x1), (2, .int x2)] [] (S, I, L) (0, 0)
set_option maxRecDepth 100000 in
set_option maxHeartbeats 4000000 in
theorem it_X9_laySlot_2 {S : List mjD} {RET : Option Value → mjH → Prop} {a0 : Nat} (h0 : is_Model S a0) {x1 : Int32} {x2 : Int32} {I : Nat → Nat → Int32} {L : Nat → Nat → Int64} (H0 : (((6 : Int32) ≤ x2 → RET none (S, I, L)) ∧ (¬ (6 : Int32) ≤ x2 → (vp_in (((6 : Int32) * x1) + x2) 24) ∧ (vp_in x2 6) ∧ ∀ y8 : Int32, y8 = x2 + 1 → hd_X9_laySlot_2 S RET a0 x1 y8 I (mj_up L (a0 + 10) x2.toNatClampNeg (L (a0 + 2) (((6 : Int32) * x1) + x2).toNatClampNeg))))) : hd_X9_laySlot_2 S RET a0 x1 x2 I L := by
  unfold hd_X9_laySlot_2
  refine V.iload_n dX9_laySlot_2 rfl rfl ?_
  refine V.bipush (v := (6)) dX9_laySlot_3 (by decide) ?_
  refine V.icmp_ge (tgt := 31) dX9_laySlot_5 (by decide) (fun c1 => ?_) (fun c1 => ?_)
  · have H2 := H0.1 c1
    exact V.ret rfl (Or.inr (Or.inr (Or.inr ⟨rfl, dX9_laySlot_31, rfl⟩))) ⟨Nat.le_refl _, Nat.le_refl _⟩ H2
  · have H3 := H0.2 c1
    refine V.aload_n dX9_laySlot_8 rfl rfl ?_
    refine V.getf (v := .ref (a0 + 10)) dX9_laySlot_9 fl_X9_39 h0.1 (by decide) rfl ?_
    refine V.iload_n dX9_laySlot_12 rfl rfl ?_
    refine V.aload_n dX9_laySlot_13 rfl rfl ?_
    refine V.getf (v := .ref (a0 + 2)) dX9_laySlot_14 fl_X9_13 h0.1 (by decide) rfl ?_
    refine V.bipush (v := (6)) dX9_laySlot_17 (by decide) ?_
    refine V.iload_n dX9_laySlot_19 rfl rfl ?_
    refine V.imul dX9_laySlot_20 ?_
    refine V.iload_n dX9_laySlot_21 rfl rfl ?_
    refine V.iadd dX9_laySlot_22 ?_
    obtain ⟨o4, H5⟩ := H3
    refine V.lald dX9_laySlot_23 h0.2.2.1 o4 ?_
    obtain ⟨o6, H7⟩ := H5
    refine V.last dX9_laySlot_24 h0.2.2.2.2.2.2.2.2.2.2.1 o6 ?_
    obtain ⟨y8, e9⟩ : ∃ y : Int32, y = x2 + 1 := ⟨_, rfl⟩
    have H10 := H7 y8 e9
    refine V.iinc (v := y8) (lo' := [(2, .int y8), (0, .ref a0), (1, .int x1)]) dX9_laySlot_25 rfl (by rw [e9]; rfl) (by decide) rfl ?_
    refine V.goto (tgt := 2) dX9_laySlot_28 (by decide) ?_
    exact V.los [1, 2, 0] rfl H10
set_option maxRecDepth 100000 in
set_option maxHeartbeats 4000000 in
theorem wp_X9_laySlot {S : List mjD} {RET : Option Value → mjH → Prop} {m : Nat} (hm : is_Model S m) {a : Int32} {I : Nat → Nat → Int32} {L : Nat → Nat → Int64} (H0 : hd_X9_laySlot_2 S RET m a (0 : Int32) I L) : CT mr_X9_laySlot (0, 0) [.ref m, .int a] (S, I, L) RET := by
  refine CT.of (lo := [(0, .ref m), (1, .int a)]) (by decide) (fun _ _ => Nat.le_of_ble_eq_true rfl) (fun _ _ => rfl) rfl ?_
  refine V.iconst (v := (0)) dX9_laySlot_0 (by decide) ?_
  refine V.istore_n (lo' := [(2, .int (0 : Int32)), (0, .ref m), (1, .int a)]) dX9_laySlot_1 rfl (by decide) rfl ?_
  exact V.los [1, 2, 0] rfl H0
def hd_X9_allFactors_4 (S : List mjD) (RET : Option Value → mjH → Prop) (a0 : Nat) (x1 : Int32) (x2 : Int32) (I : Nat → Nat → Int32) (L : Nat → Nat → Int64) : Prop := V mr_X9_allFactors (0, 0) RET 4 [(0, .ref a0), (1, .int x1), (2, .int x2)] [] (S, I, L) (0, 0)
set_option maxRecDepth 100000 in
set_option maxHeartbeats 4000000 in
theorem it_X9_allFactors_4 {S : List mjD} {RET : Option Value → mjH → Prop} {a0 : Nat} (h0 : is_Model S a0) {x1 : Int32} {x2 : Int32} {I : Nat → Nat → Int32} {L : Nat → Nat → Int64} (H0 : (((I a0 19) ≤ x2 → RET (some (.int x1)) (S, I, L)) ∧ (¬ (I a0 19) ≤ x2 → (vp_in x2 6) ∧ ∀ y6 : Int32, y6 = (x1 + (I (a0 + 12) x2.toNatClampNeg)) → ∀ y9 : Int32, y9 = x2 + 1 → hd_X9_allFactors_4 S RET a0 y6 y9 I L))) : hd_X9_allFactors_4 S RET a0 x1 x2 I L := by
  unfold hd_X9_allFactors_4
  refine V.iload_n dX9_allFactors_4 rfl rfl ?_
  refine V.aload_n dX9_allFactors_5 rfl rfl ?_
  refine V.getf (v := .int (I a0 19)) dX9_allFactors_6 fl_X9_191 h0.1 (by decide) rfl ?_
  refine V.icmp_ge (tgt := 27) dX9_allFactors_9 (by decide) (fun c1 => ?_) (fun c1 => ?_)
  · have H2 := H0.1 c1
    refine V.iload_n dX9_allFactors_27 rfl rfl ?_
    exact V.ret (v := some (.int x1)) rfl (Or.inl ⟨_, rfl, dX9_allFactors_28, _, rfl, rfl⟩) ⟨Nat.le_refl _, Nat.le_refl _⟩ H2
  · have H3 := H0.2 c1
    refine V.iload_n dX9_allFactors_12 rfl rfl ?_
    refine V.aload_n dX9_allFactors_13 rfl rfl ?_
    refine V.getf (v := .ref (a0 + 12)) dX9_allFactors_14 fl_X9_45 h0.1 (by decide) rfl ?_
    refine V.iload_n dX9_allFactors_17 rfl rfl ?_
    obtain ⟨o4, H5⟩ := H3
    refine V.iald dX9_allFactors_18 h0.2.2.2.2.2.2.2.2.2.2.2.2.1 o4 ?_
    refine V.iadd dX9_allFactors_19 ?_
    refine V.topi (fun y6 e7 => ?_)
    have H8 := H5 y6 e7
    refine V.istore_n (lo' := [(1, .int y6), (0, .ref a0), (2, .int x2)]) dX9_allFactors_20 rfl (by decide) rfl ?_
    obtain ⟨y9, e10⟩ : ∃ y : Int32, y = x2 + 1 := ⟨_, rfl⟩
    have H11 := H8 y9 e10
    refine V.iinc (v := y9) (lo' := [(2, .int y9), (1, .int y6), (0, .ref a0)]) dX9_allFactors_21 rfl (by rw [e10]; rfl) (by decide) rfl ?_
    refine V.goto (tgt := 4) dX9_allFactors_24 (by decide) ?_
    exact V.los [2, 1, 0] rfl H11
set_option maxRecDepth 100000 in
set_option maxHeartbeats 4000000 in
theorem wp_X9_allFactors {S : List mjD} {RET : Option Value → mjH → Prop} {m : Nat} (hm : is_Model S m) {I : Nat → Nat → Int32} {L : Nat → Nat → Int64} (H0 : hd_X9_allFactors_4 S RET m (0 : Int32) (0 : Int32) I L) : CT mr_X9_allFactors (0, 0) [.ref m] (S, I, L) RET := by
  refine CT.of (lo := [(0, .ref m)]) (by decide) (fun _ _ => Nat.le_of_ble_eq_true rfl) (fun _ _ => rfl) rfl ?_
  refine V.iconst (v := (0)) dX9_allFactors_0 (by decide) ?_
  refine V.istore_n (lo' := [(1, .int (0 : Int32)), (0, .ref m)]) dX9_allFactors_1 rfl (by decide) rfl ?_
  refine V.iconst (v := (0)) dX9_allFactors_2 (by decide) ?_
  refine V.istore_n (lo' := [(2, .int (0 : Int32)), (1, .int (0 : Int32)), (0, .ref m)]) dX9_allFactors_3 rfl (by decide) rfl ?_
  exact V.los [2, 1, 0] rfl H0
def hd_X9_timesFactor_2 (S : List mjD) (RET : Option Value → mjH → Prop) (a0 : Nat) (x1 : Int32) (x2 : Int32) (I : Nat → Nat → Int32) (L : Nat → Nat → Int64) : Prop := V mr_X9_timesFactor (0, 0) RET 2 [(0, .ref a0), (1, .int x1), (2, .int x2)] [] (S, I, L) (0, 0)
def hd_X9_timesFactor_23 (S : List mjD) (RET : Option Value → mjH → Prop) (a0 : Nat) (x1 : Int32) (x2 : Int32) (I : Nat → Nat → Int32) (L : Nat → Nat → Int64) : Prop := V mr_X9_timesFactor (0, 0) RET 23 [(0, .ref a0), (1, .int x1), (2, .int x2)] [] (S, I, L) (0, 0)
def hd_X9_timesFactor_80 (S : List mjD) (RET : Option Value → mjH → Prop) (a0 : Nat) (x2 : Int32) (I : Nat → Nat → Int32) (L : Nat → Nat → Int64) : Prop := V mr_X9_timesFactor (0, 0) RET 80 [(0, .ref a0), (2, .int x2)] [] (S, I, L) (0, 0)
def hd_X9_timesFactor_31 (S : List mjD) (RET : Option Value → mjH → Prop) (a0 : Nat) (x1 : Int32) (x2 : Int32) (x3 : Int32) (I : Nat → Nat → Int32) (L : Nat → Nat → Int64) : Prop := V mr_X9_timesFactor (0, 0) RET 31 [(0, .ref a0), (1, .int x1), (2, .int x2), (3, .int x3)] [] (S, I, L) (0, 0)
set_option maxRecDepth 100000 in
set_option maxHeartbeats 4000000 in
theorem it_X9_timesFactor_2 {S : List mjD} {RET : Option Value → mjH → Prop} {a0 : Nat} (h0 : is_Model S a0) {x1 : Int32} {x2 : Int32} {I : Nat → Nat → Int32} {L : Nat → Nat → Int64} (H0 : (((12 : Int32) ≤ x2 → hd_X9_timesFactor_23 S RET a0 x1 (0 : Int32) I L) ∧ (¬ (12 : Int32) ≤ x2 → (vp_in x2 12) ∧ ∀ y6 : Int32, y6 = x2 + 1 → hd_X9_timesFactor_2 S RET a0 x1 y6 I (mj_up L (a0 + 21) x2.toNatClampNeg (0 : Int64))))) : hd_X9_timesFactor_2 S RET a0 x1 x2 I L := by
  unfold hd_X9_timesFactor_2
  refine V.iload_n dX9_timesFactor_2 rfl rfl ?_
  refine V.bipush (v := (12)) dX9_timesFactor_3 (by decide) ?_
  refine V.icmp_ge (tgt := 21) dX9_timesFactor_5 (by decide) (fun c1 => ?_) (fun c1 => ?_)
  · have H2 := H0.1 c1
    refine V.iconst (v := (0)) dX9_timesFactor_21 (by decide) ?_
    refine V.istore_n (lo' := [(2, .int (0 : Int32)), (0, .ref a0), (1, .int x1)]) dX9_timesFactor_22 rfl (by decide) rfl ?_
    exact V.los [1, 2, 0] rfl H2
  · have H3 := H0.2 c1
    refine V.aload_n dX9_timesFactor_8 rfl rfl ?_
    refine V.getf (v := .ref (a0 + 21)) dX9_timesFactor_9 fl_X9_72 h0.1 (by decide) rfl ?_
    refine V.iload_n dX9_timesFactor_12 rfl rfl ?_
    refine V.lconst (v := 0) dX9_timesFactor_13 (by decide) ?_
    obtain ⟨o4, H5⟩ := H3
    refine V.last dX9_timesFactor_14 h0.2.2.2.2.2.2.2.2.2.2.2.2.2.2.2.2.2.2.2.2.2.1 o4 ?_
    obtain ⟨y6, e7⟩ : ∃ y : Int32, y = x2 + 1 := ⟨_, rfl⟩
    have H8 := H5 y6 e7
    refine V.iinc (v := y6) (lo' := [(2, .int y6), (0, .ref a0), (1, .int x1)]) dX9_timesFactor_15 rfl (by rw [e7]; rfl) (by decide) rfl ?_
    refine V.goto (tgt := 2) dX9_timesFactor_18 (by decide) ?_
    exact V.los [1, 2, 0] rfl H8
set_option maxRecDepth 100000 in
set_option maxHeartbeats 4000000 in
theorem it_X9_timesFactor_23 {S : List mjD} {RET : Option Value → mjH → Prop} {a0 : Nat} (h0 : is_Model S a0) {x1 : Int32} {x2 : Int32} {I : Nat → Nat → Int32} {L : Nat → Nat → Int64} (H0 : (((6 : Int32) ≤ x2 → hd_X9_timesFactor_80 S RET a0 (0 : Int32) I L) ∧ (¬ (6 : Int32) ≤ x2 → hd_X9_timesFactor_31 S RET a0 x1 x2 (0 : Int32) I L))) : hd_X9_timesFactor_23 S RET a0 x1 x2 I L := by
  unfold hd_X9_timesFactor_23
  refine V.iload_n dX9_timesFactor_23 rfl rfl ?_
  refine V.bipush (v := (6)) dX9_timesFactor_24 (by decide) ?_
  refine V.icmp_ge (tgt := 78) dX9_timesFactor_26 (by decide) (fun c9 => ?_) (fun c9 => ?_)
  · have H10 := H0.1 c9
    refine V.iconst (v := (0)) dX9_timesFactor_78 (by decide) ?_
    refine V.istore_n (lo' := [(2, .int (0 : Int32)), (0, .ref a0), (1, .int x1)]) dX9_timesFactor_79 rfl (by decide) rfl ?_
    exact V.los [1, 0] rfl H10
  · have H11 := H0.2 c9
    refine V.iconst (v := (0)) dX9_timesFactor_29 (by decide) ?_
    refine V.istore_n (lo' := [(3, .int (0 : Int32)), (0, .ref a0), (1, .int x1), (2, .int x2)]) dX9_timesFactor_30 rfl (by decide) rfl ?_
    exact V.los [1, 2, 3, 0] rfl H11
set_option maxRecDepth 100000 in
set_option maxHeartbeats 4000000 in
theorem it_X9_timesFactor_80 {S : List mjD} {RET : Option Value → mjH → Prop} {a0 : Nat} (h0 : is_Model S a0) {x2 : Int32} {I : Nat → Nat → Int32} {L : Nat → Nat → Int64} (H0 : (((6 : Int32) ≤ x2 → RET none (S, I, L)) ∧ (¬ (6 : Int32) ≤ x2 → (vp_in x2 12) ∧ (vp_in x2 6) ∧ ∀ y19 : Int32, y19 = x2 + 1 → hd_X9_timesFactor_80 S RET a0 y19 I (mj_up L (a0 + 10) x2.toNatClampNeg (L (a0 + 21) x2.toNatClampNeg))))) : hd_X9_timesFactor_80 S RET a0 x2 I L := by
  unfold hd_X9_timesFactor_80
  refine V.iload_n dX9_timesFactor_80 rfl rfl ?_
  refine V.bipush (v := (6)) dX9_timesFactor_81 (by decide) ?_
  refine V.icmp_ge (tgt := 104) dX9_timesFactor_83 (by decide) (fun c12 => ?_) (fun c12 => ?_)
  · have H13 := H0.1 c12
    exact V.ret rfl (Or.inr (Or.inr (Or.inr ⟨rfl, dX9_timesFactor_104, rfl⟩))) ⟨Nat.le_refl _, Nat.le_refl _⟩ H13
  · have H14 := H0.2 c12
    refine V.aload_n dX9_timesFactor_86 rfl rfl ?_
    refine V.getf (v := .ref (a0 + 10)) dX9_timesFactor_87 fl_X9_39 h0.1 (by decide) rfl ?_
    refine V.iload_n dX9_timesFactor_90 rfl rfl ?_
    refine V.aload_n dX9_timesFactor_91 rfl rfl ?_
    refine V.getf (v := .ref (a0 + 21)) dX9_timesFactor_92 fl_X9_72 h0.1 (by decide) rfl ?_
    refine V.iload_n dX9_timesFactor_95 rfl rfl ?_
    obtain ⟨o15, H16⟩ := H14
    refine V.lald dX9_timesFactor_96 h0.2.2.2.2.2.2.2.2.2.2.2.2.2.2.2.2.2.2.2.2.2.1 o15 ?_
    obtain ⟨o17, H18⟩ := H16
    refine V.last dX9_timesFactor_97 h0.2.2.2.2.2.2.2.2.2.2.1 o17 ?_
    obtain ⟨y19, e20⟩ : ∃ y : Int32, y = x2 + 1 := ⟨_, rfl⟩
    have H21 := H18 y19 e20
    refine V.iinc (v := y19) (lo' := [(2, .int y19), (0, .ref a0)]) dX9_timesFactor_98 rfl (by rw [e20]; rfl) (by decide) rfl ?_
    refine V.goto (tgt := 80) dX9_timesFactor_101 (by decide) ?_
    exact V.los [1, 0] rfl H21
set_option maxRecDepth 100000 in
set_option maxHeartbeats 4000000 in
theorem it_X9_timesFactor_31 {S : List mjD} {RET : Option Value → mjH → Prop} {a0 : Nat} (h0 : is_Model S a0) {x1 : Int32} {x2 : Int32} {x3 : Int32} {I : Nat → Nat → Int32} {L : Nat → Nat → Int64} (H0 : (((6 : Int32) ≤ x3 → ∀ y24 : Int32, y24 = x2 + 1 → hd_X9_timesFactor_23 S RET a0 x1 y24 I L) ∧ (¬ (6 : Int32) ≤ x3 → (vp_in (x2 + x3) 12) ∧ (vp_in x2 6) ∧ (vp_in (((6 : Int32) * x1) + x3) 36) ∧ (vp_in (x2 + x3) 12) ∧ ∀ y36 : Int32, y36 = x3 + 1 → hd_X9_timesFactor_31 S RET a0 x1 x2 y36 I (mj_up L (a0 + 21) (x2 + x3).toNatClampNeg ((L (a0 + 21) (x2 + x3).toNatClampNeg) + ((L (a0 + 10) x2.toNatClampNeg) * (L (a0 + 11) (((6 : Int32) * x1) + x3).toNatClampNeg))))))) : hd_X9_timesFactor_31 S RET a0 x1 x2 x3 I L := by
  unfold hd_X9_timesFactor_31
  refine V.iload_n dX9_timesFactor_31 rfl rfl ?_
  refine V.bipush (v := (6)) dX9_timesFactor_32 (by decide) ?_
  refine V.icmp_ge (tgt := 72) dX9_timesFactor_34 (by decide) (fun c22 => ?_) (fun c22 => ?_)
  · have H23 := H0.1 c22
    obtain ⟨y24, e25⟩ : ∃ y : Int32, y = x2 + 1 := ⟨_, rfl⟩
    have H26 := H23 y24 e25
    refine V.iinc (v := y24) (lo' := [(2, .int y24), (0, .ref a0), (1, .int x1), (3, .int x3)]) dX9_timesFactor_72 rfl (by rw [e25]; rfl) (by decide) rfl ?_
    refine V.goto (tgt := 23) dX9_timesFactor_75 (by decide) ?_
    exact V.los [1, 2, 0] rfl H26
  · have H27 := H0.2 c22
    refine V.aload_n dX9_timesFactor_37 rfl rfl ?_
    refine V.getf (v := .ref (a0 + 21)) dX9_timesFactor_38 fl_X9_72 h0.1 (by decide) rfl ?_
    refine V.iload_n dX9_timesFactor_41 rfl rfl ?_
    refine V.iload_n dX9_timesFactor_42 rfl rfl ?_
    refine V.iadd dX9_timesFactor_43 ?_
    refine V.dup2 dX9_timesFactor_44 rfl rfl ?_
    obtain ⟨o28, H29⟩ := H27
    refine V.lald dX9_timesFactor_45 h0.2.2.2.2.2.2.2.2.2.2.2.2.2.2.2.2.2.2.2.2.2.1 o28 ?_
    refine V.aload_n dX9_timesFactor_46 rfl rfl ?_
    refine V.getf (v := .ref (a0 + 10)) dX9_timesFactor_47 fl_X9_39 h0.1 (by decide) rfl ?_
    refine V.iload_n dX9_timesFactor_50 rfl rfl ?_
    obtain ⟨o30, H31⟩ := H29
    refine V.lald dX9_timesFactor_51 h0.2.2.2.2.2.2.2.2.2.2.1 o30 ?_
    refine V.aload_n dX9_timesFactor_52 rfl rfl ?_
    refine V.getf (v := .ref (a0 + 11)) dX9_timesFactor_53 fl_X9_42 h0.1 (by decide) rfl ?_
    refine V.bipush (v := (6)) dX9_timesFactor_56 (by decide) ?_
    refine V.iload_n dX9_timesFactor_58 rfl rfl ?_
    refine V.imul dX9_timesFactor_59 ?_
    refine V.iload_n dX9_timesFactor_60 rfl rfl ?_
    refine V.iadd dX9_timesFactor_61 ?_
    obtain ⟨o32, H33⟩ := H31
    refine V.lald dX9_timesFactor_62 h0.2.2.2.2.2.2.2.2.2.2.2.1 o32 ?_
    refine V.lmul dX9_timesFactor_63 ?_
    refine V.ladd dX9_timesFactor_64 ?_
    obtain ⟨o34, H35⟩ := H33
    refine V.last dX9_timesFactor_65 h0.2.2.2.2.2.2.2.2.2.2.2.2.2.2.2.2.2.2.2.2.2.1 o34 ?_
    obtain ⟨y36, e37⟩ : ∃ y : Int32, y = x3 + 1 := ⟨_, rfl⟩
    have H38 := H35 y36 e37
    refine V.iinc (v := y36) (lo' := [(3, .int y36), (0, .ref a0), (1, .int x1), (2, .int x2)]) dX9_timesFactor_66 rfl (by rw [e37]; rfl) (by decide) rfl ?_
    refine V.goto (tgt := 31) dX9_timesFactor_69 (by decide) ?_
    exact V.los [1, 2, 3, 0] rfl H38
set_option maxRecDepth 100000 in
set_option maxHeartbeats 4000000 in
theorem wp_X9_timesFactor {S : List mjD} {RET : Option Value → mjH → Prop} {m : Nat} (hm : is_Model S m) {a : Int32} {I : Nat → Nat → Int32} {L : Nat → Nat → Int64} (H0 : hd_X9_timesFactor_2 S RET m a (0 : Int32) I L) : CT mr_X9_timesFactor (0, 0) [.ref m, .int a] (S, I, L) RET := by
  refine CT.of (lo := [(0, .ref m), (1, .int a)]) (by decide) (fun _ _ => Nat.le_of_ble_eq_true rfl) (fun _ _ => rfl) rfl ?_
  refine V.iconst (v := (0)) dX9_timesFactor_0 (by decide) ?_
  refine V.istore_n (lo' := [(2, .int (0 : Int32)), (0, .ref m), (1, .int a)]) dX9_timesFactor_1 rfl (by decide) rfl ?_
  exact V.los [1, 2, 0] rfl H0
def hd_X9_become_2 (S : List mjD) (RET : Option Value → mjH → Prop) (a0 : Nat) (x1 : Int64) (x3 : Int32) (I : Nat → Nat → Int32) (L : Nat → Nat → Int64) : Prop := V mr_X9_become (0, 0) RET 2 [(0, .ref a0), (1, .long x1), (3, .int x3)] [] (S, I, L) (0, 0)
set_option maxRecDepth 100000 in
set_option maxHeartbeats 4000000 in
theorem it_X9_become_2 {S : List mjD} {RET : Option Value → mjH → Prop} {a0 : Nat} (h0 : is_Model S a0) {x1 : Int64} {x3 : Int32} {I : Nat → Nat → Int32} {L : Nat → Nat → Int64} (H0 : (((6 : Int32) ≤ x3 → RET none (S, I, L)) ∧ (¬ (6 : Int32) ≤ x3 → ((¬ x3 = 0 → (vp_in x3 6) ∧ ∀ y8 : Int32, y8 = x3 + 1 → hd_X9_become_2 S RET a0 x1 y8 I (mj_up L (a0 + 10) x3.toNatClampNeg (0 : Int64))) ∧ (x3 = 0 → (vp_in x3 6) ∧ ∀ y14 : Int32, y14 = x3 + 1 → hd_X9_become_2 S RET a0 x1 y14 I (mj_up L (a0 + 10) x3.toNatClampNeg x1)))))) : hd_X9_become_2 S RET a0 x1 x3 I L := by
  unfold hd_X9_become_2
  refine V.iload_n dX9_become_2 rfl rfl ?_
  refine V.bipush (v := (6)) dX9_become_3 (by decide) ?_
  refine V.icmp_ge (tgt := 29) dX9_become_5 (by decide) (fun c1 => ?_) (fun c1 => ?_)
  · have H2 := H0.1 c1
    exact V.ret rfl (Or.inr (Or.inr (Or.inr ⟨rfl, dX9_become_29, rfl⟩))) ⟨Nat.le_refl _, Nat.le_refl _⟩ H2
  · have H3 := H0.2 c1
    refine V.aload_n dX9_become_8 rfl rfl ?_
    refine V.getf (v := .ref (a0 + 10)) dX9_become_9 fl_X9_39 h0.1 (by decide) rfl ?_
    refine V.iload_n dX9_become_12 rfl rfl ?_
    refine V.iload_n dX9_become_13 rfl rfl ?_
    refine V.if_ne (tgt := 21) dX9_become_14 (by decide) (fun c4 => ?_) (fun c4 => ?_)
    · have H5 := H3.1 c4
      refine V.lconst (v := 0) dX9_become_21 (by decide) ?_
      obtain ⟨o6, H7⟩ := H5
      refine V.last dX9_become_22 h0.2.2.2.2.2.2.2.2.2.2.1 o6 ?_
      obtain ⟨y8, e9⟩ : ∃ y : Int32, y = x3 + 1 := ⟨_, rfl⟩
      have H10 := H7 y8 e9
      refine V.iinc (v := y8) (lo' := [(3, .int y8), (0, .ref a0), (1, .long x1)]) dX9_become_23 rfl (by rw [e9]; rfl) (by decide) rfl ?_
      refine V.goto (tgt := 2) dX9_become_26 (by decide) ?_
      exact V.los [1, 2, 0] rfl H10
    · have H11 := H3.2 c4
      refine V.lload_n dX9_become_17 rfl rfl ?_
      refine V.goto (tgt := 22) dX9_become_18 (by decide) ?_
      obtain ⟨o12, H13⟩ := H11
      refine V.last dX9_become_22 h0.2.2.2.2.2.2.2.2.2.2.1 o12 ?_
      obtain ⟨y14, e15⟩ : ∃ y : Int32, y = x3 + 1 := ⟨_, rfl⟩
      have H16 := H13 y14 e15
      refine V.iinc (v := y14) (lo' := [(3, .int y14), (0, .ref a0), (1, .long x1)]) dX9_become_23 rfl (by rw [e15]; rfl) (by decide) rfl ?_
      refine V.goto (tgt := 2) dX9_become_26 (by decide) ?_
      exact V.los [1, 2, 0] rfl H16
set_option maxRecDepth 100000 in
set_option maxHeartbeats 4000000 in
theorem wp_X9_become {S : List mjD} {RET : Option Value → mjH → Prop} {m : Nat} (hm : is_Model S m) {a : Int64} {I : Nat → Nat → Int32} {L : Nat → Nat → Int64} (H0 : hd_X9_become_2 S RET m a (0 : Int32) I L) : CT mr_X9_become (0, 0) [.ref m, .long a] (S, I, L) RET := by
  refine CT.of (lo := [(0, .ref m), (1, .long a)]) (by decide) (fun _ _ => Nat.le_of_ble_eq_true rfl) (fun _ _ => rfl) rfl ?_
  refine V.iconst (v := (0)) dX9_become_0 (by decide) ?_
  refine V.istore_n (lo' := [(3, .int (0 : Int32)), (0, .ref m), (1, .long a)]) dX9_become_1 rfl (by decide) rfl ?_
  exact V.los [1, 2, 0] rfl H0
def hd_X9_makeMirror_2 (S : List mjD) (RET : Option Value → mjH → Prop) (a0 : Nat) (x1 : Int32) (I : Nat → Nat → Int32) (L : Nat → Nat → Int64) : Prop := V mr_X9_makeMirror (0, 0) RET 2 [(0, .ref a0), (1, .int x1)] [] (S, I, L) (0, 0)
set_option maxRecDepth 100000 in
set_option maxHeartbeats 4000000 in
theorem it_X9_makeMirror_2 {S : List mjD} {RET : Option Value → mjH → Prop} {a0 : Nat} (h0 : is_Model S a0) {x1 : Int32} {I : Nat → Nat → Int32} {L : Nat → Nat → Int64} (H0 : (((6 : Int32) ≤ x1 → RET none (S, I, L)) ∧ (¬ (6 : Int32) ≤ x1 → (vp_in x1 6) ∧ (vp_in x1 6) ∧ ∀ y8 : Int32, y8 = x1 + 2 → hd_X9_makeMirror_2 S RET a0 y8 I (mj_up L (a0 + 10) x1.toNatClampNeg (-(L (a0 + 10) x1.toNatClampNeg)))))) : hd_X9_makeMirror_2 S RET a0 x1 I L := by
  unfold hd_X9_makeMirror_2
  refine V.iload_n dX9_makeMirror_2 rfl rfl ?_
  refine V.bipush (v := (6)) dX9_makeMirror_3 (by decide) ?_
  refine V.icmp_ge (tgt := 27) dX9_makeMirror_5 (by decide) (fun c1 => ?_) (fun c1 => ?_)
  · have H2 := H0.1 c1
    exact V.ret rfl (Or.inr (Or.inr (Or.inr ⟨rfl, dX9_makeMirror_27, rfl⟩))) ⟨Nat.le_refl _, Nat.le_refl _⟩ H2
  · have H3 := H0.2 c1
    refine V.aload_n dX9_makeMirror_8 rfl rfl ?_
    refine V.getf (v := .ref (a0 + 10)) dX9_makeMirror_9 fl_X9_39 h0.1 (by decide) rfl ?_
    refine V.iload_n dX9_makeMirror_12 rfl rfl ?_
    refine V.aload_n dX9_makeMirror_13 rfl rfl ?_
    refine V.getf (v := .ref (a0 + 10)) dX9_makeMirror_14 fl_X9_39 h0.1 (by decide) rfl ?_
    refine V.iload_n dX9_makeMirror_17 rfl rfl ?_
    obtain ⟨o4, H5⟩ := H3
    refine V.lald dX9_makeMirror_18 h0.2.2.2.2.2.2.2.2.2.2.1 o4 ?_
    refine V.lneg dX9_makeMirror_19 ?_
    obtain ⟨o6, H7⟩ := H5
    refine V.last dX9_makeMirror_20 h0.2.2.2.2.2.2.2.2.2.2.1 o6 ?_
    obtain ⟨y8, e9⟩ : ∃ y : Int32, y = x1 + 2 := ⟨_, rfl⟩
    have H10 := H7 y8 e9
    refine V.iinc (v := y8) (lo' := [(1, .int y8), (0, .ref a0)]) dX9_makeMirror_21 rfl (by rw [e9]; rfl) (by decide) rfl ?_
    refine V.goto (tgt := 2) dX9_makeMirror_24 (by decide) ?_
    exact V.los [1, 0] rfl H10
set_option maxRecDepth 100000 in
set_option maxHeartbeats 4000000 in
theorem wp_X9_makeMirror {S : List mjD} {RET : Option Value → mjH → Prop} {m : Nat} (hm : is_Model S m) {I : Nat → Nat → Int32} {L : Nat → Nat → Int64} (H0 : hd_X9_makeMirror_2 S RET m (1 : Int32) I L) : CT mr_X9_makeMirror (0, 0) [.ref m] (S, I, L) RET := by
  refine CT.of (lo := [(0, .ref m)]) (by decide) (fun _ _ => Nat.le_of_ble_eq_true rfl) (fun _ _ => rfl) rfl ?_
  refine V.iconst (v := (1)) dX9_makeMirror_0 (by decide) ?_
  refine V.istore_n (lo' := [(1, .int (1 : Int32)), (0, .ref m)]) dX9_makeMirror_1 rfl (by decide) rfl ?_
  exact V.los [1, 0] rfl H0
set_option maxRecDepth 100000 in
set_option maxHeartbeats 4000000 in
theorem wp_X9_addSign {S : List mjD} {RET : Option Value → mjH → Prop} {m : Nat} (hm : is_Model S m) {a : Int32} {I : Nat → Nat → Int32} {L : Nat → Nat → Int64} (H0 : (vp_in (I m 36) 64) ∧ RET none (S, mj_up (mj_up I (m + 22) (I m 36).toNatClampNeg a) m 36 (((mj_up I (m + 22) (I m 36).toNatClampNeg a) m 36) + (1 : Int32)), L)) : CT mr_X9_addSign (0, 0) [.ref m, .int a] (S, I, L) RET := by
  refine CT.of (lo := [(0, .ref m), (1, .int a)]) (by decide) (fun _ _ => Nat.le_of_ble_eq_true rfl) (fun _ _ => rfl) rfl ?_
  refine V.aload_n dX9_addSign_0 rfl rfl ?_
  refine V.getf (v := .ref (m + 22)) dX9_addSign_1 fl_X9_75 hm.1 (by decide) rfl ?_
  refine V.aload_n dX9_addSign_4 rfl rfl ?_
  refine V.getf (v := .int (I m 36)) dX9_addSign_5 fl_X9_283 hm.1 (by decide) rfl ?_
  refine V.iload_n dX9_addSign_8 rfl rfl ?_
  obtain ⟨o1, H2⟩ := H0
  refine V.iast dX9_addSign_9 hm.2.2.2.2.2.2.2.2.2.2.2.2.2.2.2.2.2.2.2.2.2.2.1 o1 ?_
  refine V.aload_n dX9_addSign_10 rfl rfl ?_
  refine V.dup dX9_addSign_11 rfl ?_
  refine V.getf (v := .int ((mj_up I (m + 22) (I m 36).toNatClampNeg a) m 36)) dX9_addSign_12 fl_X9_283 hm.1 (by decide) rfl ?_
  refine V.iconst (v := (1)) dX9_addSign_15 (by decide) ?_
  refine V.iadd dX9_addSign_16 ?_
  refine V.puti dX9_addSign_17 fl_X9_283 fp_X9_283 (Or.inl rfl) hm.1 (by decide) rfl rfl ?_
  exact V.ret rfl (Or.inr (Or.inr (Or.inr ⟨rfl, dX9_addSign_20, rfl⟩))) ⟨Nat.le_refl _, Nat.le_refl _⟩ H2
set_option maxRecDepth 100000 in
set_option maxHeartbeats 4000000 in
theorem wp_X9_numberNow {S : List mjD} {RET : Option Value → mjH → Prop} {m : Nat} (hm : is_Model S m) {a : Int32} {b : Int32} {I : Nat → Nat → Int32} {L : Nat → Nat → Int64} (H0 : (vp_in (((6 : Int32) * a) + b) 24) ∧ RET (some (.int ((L (m + 2) (((6 : Int32) * a) + b).toNatClampNeg).toInt32 + (1000 : Int32)))) (S, I, L)) : CT mr_X9_numberNow (0, 0) [.ref m, .int a, .int b] (S, I, L) RET := by
  refine CT.of (lo := [(0, .ref m), (1, .int a), (2, .int b)]) (by decide) (fun _ _ => Nat.le_of_ble_eq_true rfl) (fun _ _ => rfl) rfl ?_
  refine V.aload_n dX9_numberNow_0 rfl rfl ?_
  refine V.getf (v := .ref (m + 2)) dX9_numberNow_1 fl_X9_13 hm.1 (by decide) rfl ?_
  refine V.bipush (v := (6)) dX9_numberNow_4 (by decide) ?_
  refine V.iload_n dX9_numberNow_6 rfl rfl ?_
  refine V.imul dX9_numberNow_7 ?_
  refine V.iload_n dX9_numberNow_8 rfl rfl ?_
  refine V.iadd dX9_numberNow_9 ?_
  obtain ⟨o1, H2⟩ := H0
  refine V.lald dX9_numberNow_10 hm.2.2.1 o1 ?_
  refine V.l2i dX9_numberNow_11 ?_
  refine V.sipush (v := (1000)) dX9_numberNow_12 (by decide) ?_
  refine V.iadd dX9_numberNow_15 ?_
  exact V.ret (v := some (.int ((L (m + 2) (((6 : Int32) * a) + b).toNatClampNeg).toInt32 + (1000 : Int32)))) rfl (Or.inl ⟨_, rfl, dX9_numberNow_16, _, rfl, rfl⟩) ⟨Nat.le_refl _, Nat.le_refl _⟩ H2
set_option maxRecDepth 100000 in
set_option maxHeartbeats 4000000 in
theorem wp_X9_factorNow {S : List mjD} {RET : Option Value → mjH → Prop} {m : Nat} (hm : is_Model S m) {a : Int32} {b : Int32} {I : Nat → Nat → Int32} {L : Nat → Nat → Int64} (H0 : ((¬ b = 0 → ((¬ b = (1 : Int32) → (vp_in ((((6 : Int32) * a) + b) - (2 : Int32)) 36) ∧ RET (some (.int ((L (m + 11) ((((6 : Int32) * a) + b) - (2 : Int32)).toNatClampNeg).toInt32 + (100000 : Int32)))) (S, I, L)) ∧ (b = (1 : Int32) → (vp_in a 6) ∧ RET (some (.int (I (m + 12) a.toNatClampNeg))) (S, I, L)))) ∧ (b = 0 → (vp_in a 6) ∧ RET (some (.int (I (m + 13) a.toNatClampNeg))) (S, I, L)))) : CT mr_X9_factorNow (0, 0) [.ref m, .int a, .int b] (S, I, L) RET := by
  refine CT.of (lo := [(0, .ref m), (1, .int a), (2, .int b)]) (by decide) (fun _ _ => Nat.le_of_ble_eq_true rfl) (fun _ _ => rfl) rfl ?_
  refine V.iload_n dX9_factorNow_0 rfl rfl ?_
  refine V.if_ne (tgt := 13) dX9_factorNow_1 (by decide) (fun c1 => ?_) (fun c1 => ?_)
  · have H2 := H0.1 c1
    refine V.iload_n dX9_factorNow_13 rfl rfl ?_
    refine V.iconst (v := (1)) dX9_factorNow_14 (by decide) ?_
    refine V.icmp_ne (tgt := 27) dX9_factorNow_15 (by decide) (fun c3 => ?_) (fun c3 => ?_)
    · have H4 := H2.1 c3
      refine V.aload_n dX9_factorNow_27 rfl rfl ?_
      refine V.getf (v := .ref (m + 11)) dX9_factorNow_28 fl_X9_42 hm.1 (by decide) rfl ?_
      refine V.bipush (v := (6)) dX9_factorNow_31 (by decide) ?_
      refine V.iload_n dX9_factorNow_33 rfl rfl ?_
      refine V.imul dX9_factorNow_34 ?_
      refine V.iload_n dX9_factorNow_35 rfl rfl ?_
      refine V.iadd dX9_factorNow_36 ?_
      refine V.iconst (v := (2)) dX9_factorNow_37 (by decide) ?_
      refine V.isub dX9_factorNow_38 ?_
      obtain ⟨o5, H6⟩ := H4
      refine V.lald dX9_factorNow_39 hm.2.2.2.2.2.2.2.2.2.2.2.1 o5 ?_
      refine V.l2i dX9_factorNow_40 ?_
      refine V.ldc_w kc_X9_337 dX9_factorNow_41 ?_
      refine V.iadd dX9_factorNow_44 ?_
      exact V.ret (v := some (.int ((L (m + 11) ((((6 : Int32) * a) + b) - (2 : Int32)).toNatClampNeg).toInt32 + (100000 : Int32)))) rfl (Or.inl ⟨_, rfl, dX9_factorNow_45, _, rfl, rfl⟩) ⟨Nat.le_refl _, Nat.le_refl _⟩ H6
    · have H7 := H2.2 c3
      refine V.aload_n dX9_factorNow_18 rfl rfl ?_
      refine V.getf (v := .ref (m + 12)) dX9_factorNow_19 fl_X9_45 hm.1 (by decide) rfl ?_
      refine V.iload_n dX9_factorNow_22 rfl rfl ?_
      obtain ⟨o8, H9⟩ := H7
      refine V.iald dX9_factorNow_23 hm.2.2.2.2.2.2.2.2.2.2.2.2.1 o8 ?_
      refine V.goto (tgt := 45) dX9_factorNow_24 (by decide) ?_
      exact V.ret (v := some (.int (I (m + 12) a.toNatClampNeg))) rfl (Or.inl ⟨_, rfl, dX9_factorNow_45, _, rfl, rfl⟩) ⟨Nat.le_refl _, Nat.le_refl _⟩ H9
  · have H10 := H0.2 c1
    refine V.aload_n dX9_factorNow_4 rfl rfl ?_
    refine V.getf (v := .ref (m + 13)) dX9_factorNow_5 fl_X9_48 hm.1 (by decide) rfl ?_
    refine V.iload_n dX9_factorNow_8 rfl rfl ?_
    obtain ⟨o11, H12⟩ := H10
    refine V.iald dX9_factorNow_9 hm.2.2.2.2.2.2.2.2.2.2.2.2.2.1 o11 ?_
    refine V.goto (tgt := 45) dX9_factorNow_10 (by decide) ?_
    exact V.ret (v := some (.int (I (m + 13) a.toNatClampNeg))) rfl (Or.inl ⟨_, rfl, dX9_factorNow_45, _, rfl, rfl⟩) ⟨Nat.le_refl _, Nat.le_refl _⟩ H12
def hd_X9_valueNow_5 (S : List mjD) (RET : Option Value → mjH → Prop) (a0 : Nat) (x1 : Int32) (x2 : Int32) (x3 : Int64) (x5 : Int32) (I : Nat → Nat → Int32) (L : Nat → Nat → Int64) : Prop := V mr_X9_valueNow (0, 0) RET 5 [(0, .ref a0), (1, .int x1), (2, .int x2), (3, .long x3), (5, .int x5)] [] (S, I, L) (0, 0)
set_option maxRecDepth 100000 in
set_option maxHeartbeats 4000000 in
theorem it_X9_valueNow_5 {S : List mjD} {RET : Option Value → mjH → Prop} {a0 : Nat} (h0 : is_Model S a0) {x1 : Int32} {x2 : Int32} {x3 : Int64} {x5 : Int32} {I : Nat → Nat → Int32} {L : Nat → Nat → Int64} (H0 : ((x5 < 0 → RET (some (.long x3)) (S, I, L)) ∧ (¬ x5 < 0 → (vp_in (((6 : Int32) * x1) + x5) 24) ∧ ∀ y6 : Int64, y6 = ((x3 * x2.toInt64) + (L (a0 + 2) (((6 : Int32) * x1) + x5).toNatClampNeg)) → ∀ y9 : Int32, y9 = x5 + (-1) → hd_X9_valueNow_5 S RET a0 x1 x2 y6 y9 I L))) : hd_X9_valueNow_5 S RET a0 x1 x2 x3 x5 I L := by
  unfold hd_X9_valueNow_5
  refine V.iload dX9_valueNow_5 rfl ?_
  refine V.if_lt (tgt := 34) dX9_valueNow_7 (by decide) (fun c1 => ?_) (fun c1 => ?_)
  · have H2 := H0.1 c1
    refine V.lload_n dX9_valueNow_34 rfl rfl ?_
    exact V.ret (v := some (.long x3)) rfl (Or.inr (Or.inl ⟨_, rfl, dX9_valueNow_35, rfl⟩)) ⟨Nat.le_refl _, Nat.le_refl _⟩ H2
  · have H3 := H0.2 c1
    refine V.lload_n dX9_valueNow_10 rfl rfl ?_
    refine V.iload_n dX9_valueNow_11 rfl rfl ?_
    refine V.i2l dX9_valueNow_12 ?_
    refine V.lmul dX9_valueNow_13 ?_
    refine V.aload_n dX9_valueNow_14 rfl rfl ?_
    refine V.getf (v := .ref (a0 + 2)) dX9_valueNow_15 fl_X9_13 h0.1 (by decide) rfl ?_
    refine V.bipush (v := (6)) dX9_valueNow_18 (by decide) ?_
    refine V.iload_n dX9_valueNow_20 rfl rfl ?_
    refine V.imul dX9_valueNow_21 ?_
    refine V.iload dX9_valueNow_22 rfl ?_
    refine V.iadd dX9_valueNow_24 ?_
    obtain ⟨o4, H5⟩ := H3
    refine V.lald dX9_valueNow_25 h0.2.2.1 o4 ?_
    refine V.ladd dX9_valueNow_26 ?_
    refine V.topl (fun y6 e7 => ?_)
    have H8 := H5 y6 e7
    refine V.lstore_n (lo' := [(3, .long y6), (0, .ref a0), (1, .int x1), (2, .int x2), (5, .int x5)]) dX9_valueNow_27 rfl (by decide) rfl ?_
    obtain ⟨y9, e10⟩ : ∃ y : Int32, y = x5 + (-1) := ⟨_, rfl⟩
    have H11 := H8 y9 e10
    refine V.iinc (v := y9) (lo' := [(5, .int y9), (3, .long y6), (0, .ref a0), (1, .int x1), (2, .int x2)]) dX9_valueNow_28 rfl (by rw [e10]; rfl) (by decide) rfl ?_
    refine V.goto (tgt := 5) dX9_valueNow_31 (by decide) ?_
    exact V.los [2, 3, 4, 1, 0] rfl H11
set_option maxRecDepth 100000 in
set_option maxHeartbeats 4000000 in
theorem wp_X9_valueNow {S : List mjD} {RET : Option Value → mjH → Prop} {m : Nat} (hm : is_Model S m) {a : Int32} {b : Int32} {I : Nat → Nat → Int32} {L : Nat → Nat → Int64} (H0 : hd_X9_valueNow_5 S RET m a b (0 : Int64) (5 : Int32) I L) : CT mr_X9_valueNow (0, 0) [.ref m, .int a, .int b] (S, I, L) RET := by
  refine CT.of (lo := [(0, .ref m), (1, .int a), (2, .int b)]) (by decide) (fun _ _ => Nat.le_of_ble_eq_true rfl) (fun _ _ => rfl) rfl ?_
  refine V.lconst (v := 0) dX9_valueNow_0 (by decide) ?_
  refine V.lstore_n (lo' := [(3, .long (0 : Int64)), (0, .ref m), (1, .int a), (2, .int b)]) dX9_valueNow_1 rfl (by decide) rfl ?_
  refine V.iconst (v := (5)) dX9_valueNow_2 (by decide) ?_
  refine V.istore (lo' := [(5, .int (5 : Int32)), (3, .long (0 : Int64)), (0, .ref m), (1, .int a), (2, .int b)]) dX9_valueNow_3 (by decide) rfl ?_
  exact V.los [2, 3, 4, 1, 0] rfl H0
def hd_X9_oftenOf_2 (S : List mjD) (RET : Option Value → mjH → Prop) (a0 : Nat) (x1 : Int32) (x2 : Int32) (I : Nat → Nat → Int32) (L : Nat → Nat → Int64) : Prop := V mr_X9_oftenOf (0, 0) RET 2 [(0, .ref a0), (1, .int x1), (2, .int x2)] [] (S, I, L) (0, 0)
def hd_X9_oftenOf_15 (S : List mjD) (RET : Option Value → mjH → Prop) (a0 : Nat) (x1 : Int32) (x2 : Int32) (x3 : Int32) (x4 : Int32) (I : Nat → Nat → Int32) (L : Nat → Nat → Int64) : Prop := V mr_X9_oftenOf (0, 0) RET 15 [(0, .ref a0), (1, .int x1), (2, .int x2), (3, .int x3), (4, .int x4)] [] (S, I, L) (0, 0)
set_option maxRecDepth 100000 in
set_option maxHeartbeats 4000000 in
theorem it_X9_oftenOf_2 {S : List mjD} {RET : Option Value → mjH → Prop} {a0 : Nat} (h0 : is_Model S a0) {x1 : Int32} {x2 : Int32} {I : Nat → Nat → Int32} {L : Nat → Nat → Int64} (H0 : (((I a0 19) ≤ x2 → RET (some (.int (0 : Int32))) (S, I, L)) ∧ (¬ (I a0 19) ≤ x2 → hd_X9_oftenOf_15 S RET a0 x1 x2 (1 : Int32) (0 : Int32) I L))) : hd_X9_oftenOf_2 S RET a0 x1 x2 I L := by
  unfold hd_X9_oftenOf_2
  refine V.iload_n dX9_oftenOf_2 rfl rfl ?_
  refine V.aload_n dX9_oftenOf_3 rfl rfl ?_
  refine V.getf (v := .int (I a0 19)) dX9_oftenOf_4 fl_X9_191 h0.1 (by decide) rfl ?_
  refine V.icmp_ge (tgt := 83) dX9_oftenOf_7 (by decide) (fun c1 => ?_) (fun c1 => ?_)
  · have H2 := H0.1 c1
    refine V.iconst (v := (0)) dX9_oftenOf_83 (by decide) ?_
    exact V.ret (v := some (.int (0 : Int32))) rfl (Or.inl ⟨_, rfl, dX9_oftenOf_84, _, rfl, rfl⟩) ⟨Nat.le_refl _, Nat.le_refl _⟩ H2
  · have H3 := H0.2 c1
    refine V.iconst (v := (1)) dX9_oftenOf_10 (by decide) ?_
    refine V.istore_n (lo' := [(3, .int (1 : Int32)), (0, .ref a0), (1, .int x1), (2, .int x2)]) dX9_oftenOf_11 rfl (by decide) rfl ?_
    refine V.iconst (v := (0)) dX9_oftenOf_12 (by decide) ?_
    refine V.istore (lo' := [(4, .int (0 : Int32)), (3, .int (1 : Int32)), (0, .ref a0), (1, .int x1), (2, .int x2)]) dX9_oftenOf_13 (by decide) rfl ?_
    exact V.los [2, 3, 4, 1, 0] rfl H3
set_option maxRecDepth 100000 in
set_option maxHeartbeats 4000000 in
theorem it_X9_oftenOf_15 {S : List mjD} {RET : Option Value → mjH → Prop} {a0 : Nat} (h0 : is_Model S a0) {x1 : Int32} {x2 : Int32} {x3 : Int32} {x4 : Int32} {I : Nat → Nat → Int32} {L : Nat → Nat → Int64} (H0 : (((6 : Int32) ≤ x4 → ((x3 = 0 → ∀ y8 : Int32, y8 = x2 + 1 → hd_X9_oftenOf_2 S RET a0 x1 y8 I L) ∧ (¬ x3 = 0 → (vp_in x2 6) ∧ RET (some (.int (I (a0 + 12) x2.toNatClampNeg))) (S, I, L)))) ∧ (¬ (6 : Int32) ≤ x4 → ((x3 = 0 → ∀ y17 : Int32, y17 = x4 + 1 → hd_X9_oftenOf_15 S RET a0 x1 x2 (0 : Int32) y17 I L) ∧ (¬ x3 = 0 → (vp_in (((6 : Int32) * x2) + x4) 36) ∧ (vp_in (((6 : Int32) * x1) + x4) 36) ∧ ((¬ (L (a0 + 11) (((6 : Int32) * x2) + x4).toNatClampNeg) = (L (a0 + 23) (((6 : Int32) * x1) + x4).toNatClampNeg) → ∀ y27 : Int32, y27 = x4 + 1 → hd_X9_oftenOf_15 S RET a0 x1 x2 (0 : Int32) y27 I L) ∧ ((L (a0 + 11) (((6 : Int32) * x2) + x4).toNatClampNeg) = (L (a0 + 23) (((6 : Int32) * x1) + x4).toNatClampNeg) → ∀ y31 : Int32, y31 = x4 + 1 → hd_X9_oftenOf_15 S RET a0 x1 x2 (1 : Int32) y31 I L))))))) : hd_X9_oftenOf_15 S RET a0 x1 x2 x3 x4 I L := by
  unfold hd_X9_oftenOf_15
  refine V.iload dX9_oftenOf_15 rfl ?_
  refine V.bipush (v := (6)) dX9_oftenOf_17 (by decide) ?_
  refine V.icmp_ge (tgt := 66) dX9_oftenOf_19 (by decide) (fun c4 => ?_) (fun c4 => ?_)
  · have H5 := H0.1 c4
    refine V.iload_n dX9_oftenOf_66 rfl rfl ?_
    refine V.if_eq (tgt := 77) dX9_oftenOf_67 (by decide) (fun c6 => ?_) (fun c6 => ?_)
    · have H7 := H5.1 c6
      obtain ⟨y8, e9⟩ : ∃ y : Int32, y = x2 + 1 := ⟨_, rfl⟩
      have H10 := H7 y8 e9
      refine V.iinc (v := y8) (lo' := [(2, .int y8), (0, .ref a0), (1, .int x1), (3, .int x3), (4, .int x4)]) dX9_oftenOf_77 rfl (by rw [e9]; rfl) (by decide) rfl ?_
      refine V.goto (tgt := 2) dX9_oftenOf_80 (by decide) ?_
      exact V.los [1, 2, 0] rfl H10
    · have H11 := H5.2 c6
      refine V.aload_n dX9_oftenOf_70 rfl rfl ?_
      refine V.getf (v := .ref (a0 + 12)) dX9_oftenOf_71 fl_X9_45 h0.1 (by decide) rfl ?_
      refine V.iload_n dX9_oftenOf_74 rfl rfl ?_
      obtain ⟨o12, H13⟩ := H11
      refine V.iald dX9_oftenOf_75 h0.2.2.2.2.2.2.2.2.2.2.2.2.1 o12 ?_
      exact V.ret (v := some (.int (I (a0 + 12) x2.toNatClampNeg))) rfl (Or.inl ⟨_, rfl, dX9_oftenOf_76, _, rfl, rfl⟩) ⟨Nat.le_refl _, Nat.le_refl _⟩ H13
  · have H14 := H0.2 c4
    refine V.iload_n dX9_oftenOf_22 rfl rfl ?_
    refine V.if_eq (tgt := 58) dX9_oftenOf_23 (by decide) (fun c15 => ?_) (fun c15 => ?_)
    · have H16 := H14.1 c15
      refine V.iconst (v := (0)) dX9_oftenOf_58 (by decide) ?_
      refine V.istore_n (lo' := [(3, .int (0 : Int32)), (0, .ref a0), (1, .int x1), (2, .int x2), (4, .int x4)]) dX9_oftenOf_59 rfl (by decide) rfl ?_
      obtain ⟨y17, e18⟩ : ∃ y : Int32, y = x4 + 1 := ⟨_, rfl⟩
      have H19 := H16 y17 e18
      refine V.iinc (v := y17) (lo' := [(4, .int y17), (3, .int (0 : Int32)), (0, .ref a0), (1, .int x1), (2, .int x2)]) dX9_oftenOf_60 rfl (by rw [e18]; rfl) (by decide) rfl ?_
      refine V.goto (tgt := 15) dX9_oftenOf_63 (by decide) ?_
      exact V.los [2, 3, 4, 1, 0] rfl H19
    · have H20 := H14.2 c15
      refine V.aload_n dX9_oftenOf_26 rfl rfl ?_
      refine V.getf (v := .ref (a0 + 11)) dX9_oftenOf_27 fl_X9_42 h0.1 (by decide) rfl ?_
      refine V.bipush (v := (6)) dX9_oftenOf_30 (by decide) ?_
      refine V.iload_n dX9_oftenOf_32 rfl rfl ?_
      refine V.imul dX9_oftenOf_33 ?_
      refine V.iload dX9_oftenOf_34 rfl ?_
      refine V.iadd dX9_oftenOf_36 ?_
      obtain ⟨o21, H22⟩ := H20
      refine V.lald dX9_oftenOf_37 h0.2.2.2.2.2.2.2.2.2.2.2.1 o21 ?_
      refine V.aload_n dX9_oftenOf_38 rfl rfl ?_
      refine V.getf (v := .ref (a0 + 23)) dX9_oftenOf_39 fl_X9_78 h0.1 (by decide) rfl ?_
      refine V.bipush (v := (6)) dX9_oftenOf_42 (by decide) ?_
      refine V.iload_n dX9_oftenOf_44 rfl rfl ?_
      refine V.imul dX9_oftenOf_45 ?_
      refine V.iload dX9_oftenOf_46 rfl ?_
      refine V.iadd dX9_oftenOf_48 ?_
      obtain ⟨o23, H24⟩ := H22
      refine V.lald dX9_oftenOf_49 h0.2.2.2.2.2.2.2.2.2.2.2.2.2.2.2.2.2.2.2.2.2.2.2.1 o23 ?_
      refine V.lc_ne (tgt := 58) dX9_oftenOf_50 dX9_oftenOf_51 (by decide) (fun c25 => ?_) (fun c25 => ?_)
      · have H26 := H24.1 c25
        refine V.iconst (v := (0)) dX9_oftenOf_58 (by decide) ?_
        refine V.istore_n (lo' := [(3, .int (0 : Int32)), (0, .ref a0), (1, .int x1), (2, .int x2), (4, .int x4)]) dX9_oftenOf_59 rfl (by decide) rfl ?_
        obtain ⟨y27, e28⟩ : ∃ y : Int32, y = x4 + 1 := ⟨_, rfl⟩
        have H29 := H26 y27 e28
        refine V.iinc (v := y27) (lo' := [(4, .int y27), (3, .int (0 : Int32)), (0, .ref a0), (1, .int x1), (2, .int x2)]) dX9_oftenOf_60 rfl (by rw [e28]; rfl) (by decide) rfl ?_
        refine V.goto (tgt := 15) dX9_oftenOf_63 (by decide) ?_
        exact V.los [2, 3, 4, 1, 0] rfl H29
      · have H30 := H24.2 c25
        refine V.iconst (v := (1)) dX9_oftenOf_54 (by decide) ?_
        refine V.goto (tgt := 59) dX9_oftenOf_55 (by decide) ?_
        refine V.istore_n (lo' := [(3, .int (1 : Int32)), (0, .ref a0), (1, .int x1), (2, .int x2), (4, .int x4)]) dX9_oftenOf_59 rfl (by decide) rfl ?_
        obtain ⟨y31, e32⟩ : ∃ y : Int32, y = x4 + 1 := ⟨_, rfl⟩
        have H33 := H30 y31 e32
        refine V.iinc (v := y31) (lo' := [(4, .int y31), (3, .int (1 : Int32)), (0, .ref a0), (1, .int x1), (2, .int x2)]) dX9_oftenOf_60 rfl (by rw [e32]; rfl) (by decide) rfl ?_
        refine V.goto (tgt := 15) dX9_oftenOf_63 (by decide) ?_
        exact V.los [2, 3, 4, 1, 0] rfl H33
set_option maxRecDepth 100000 in
set_option maxHeartbeats 4000000 in
theorem wp_X9_oftenOf {S : List mjD} {RET : Option Value → mjH → Prop} {m : Nat} (hm : is_Model S m) {a : Int32} {I : Nat → Nat → Int32} {L : Nat → Nat → Int64} (H0 : hd_X9_oftenOf_2 S RET m a (0 : Int32) I L) : CT mr_X9_oftenOf (0, 0) [.ref m, .int a] (S, I, L) RET := by
  refine CT.of (lo := [(0, .ref m), (1, .int a)]) (by decide) (fun _ _ => Nat.le_of_ble_eq_true rfl) (fun _ _ => rfl) rfl ?_
  refine V.iconst (v := (0)) dX9_oftenOf_0 (by decide) ?_
  refine V.istore_n (lo' := [(2, .int (0 : Int32)), (0, .ref m), (1, .int a)]) dX9_oftenOf_1 rfl (by decide) rfl ?_
  exact V.los [1, 2, 0] rfl H0
def hd_X9_timesHad_2 (S : List mjD) (RET : Option Value → mjH → Prop) (a0 : Nat) (x1 : Int32) (x2 : Int32) (I : Nat → Nat → Int32) (L : Nat → Nat → Int64) : Prop := V mr_X9_timesHad (0, 0) RET 2 [(0, .ref a0), (1, .int x1), (2, .int x2)] [] (S, I, L) (0, 0)
def hd_X9_timesHad_23 (S : List mjD) (RET : Option Value → mjH → Prop) (a0 : Nat) (x1 : Int32) (x2 : Int32) (I : Nat → Nat → Int32) (L : Nat → Nat → Int64) : Prop := V mr_X9_timesHad (0, 0) RET 23 [(0, .ref a0), (1, .int x1), (2, .int x2)] [] (S, I, L) (0, 0)
def hd_X9_timesHad_80 (S : List mjD) (RET : Option Value → mjH → Prop) (a0 : Nat) (x2 : Int32) (I : Nat → Nat → Int32) (L : Nat → Nat → Int64) : Prop := V mr_X9_timesHad (0, 0) RET 80 [(0, .ref a0), (2, .int x2)] [] (S, I, L) (0, 0)
def hd_X9_timesHad_31 (S : List mjD) (RET : Option Value → mjH → Prop) (a0 : Nat) (x1 : Int32) (x2 : Int32) (x3 : Int32) (I : Nat → Nat → Int32) (L : Nat → Nat → Int64) : Prop := V mr_X9_timesHad (0, 0) RET 31 [(0, .ref a0), (1, .int x1), (2, .int x2), (3, .int x3)] [] (S, I, L) (0, 0)
set_option maxRecDepth 100000 in
set_option maxHeartbeats 4000000 in
theorem it_X9_timesHad_2 {S : List mjD} {RET : Option Value → mjH → Prop} {a0 : Nat} (h0 : is_Model S a0) {x1 : Int32} {x2 : Int32} {I : Nat → Nat → Int32} {L : Nat → Nat → Int64} (H0 : (((12 : Int32) ≤ x2 → hd_X9_timesHad_23 S RET a0 x1 (0 : Int32) I L) ∧ (¬ (12 : Int32) ≤ x2 → (vp_in x2 12) ∧ ∀ y6 : Int32, y6 = x2 + 1 → hd_X9_timesHad_2 S RET a0 x1 y6 I (mj_up L (a0 + 21) x2.toNatClampNeg (0 : Int64))))) : hd_X9_timesHad_2 S RET a0 x1 x2 I L := by
  unfold hd_X9_timesHad_2
  refine V.iload_n dX9_timesHad_2 rfl rfl ?_
  refine V.bipush (v := (12)) dX9_timesHad_3 (by decide) ?_
  refine V.icmp_ge (tgt := 21) dX9_timesHad_5 (by decide) (fun c1 => ?_) (fun c1 => ?_)
  · have H2 := H0.1 c1
    refine V.iconst (v := (0)) dX9_timesHad_21 (by decide) ?_
    refine V.istore_n (lo' := [(2, .int (0 : Int32)), (0, .ref a0), (1, .int x1)]) dX9_timesHad_22 rfl (by decide) rfl ?_
    exact V.los [1, 2, 0] rfl H2
  · have H3 := H0.2 c1
    refine V.aload_n dX9_timesHad_8 rfl rfl ?_
    refine V.getf (v := .ref (a0 + 21)) dX9_timesHad_9 fl_X9_72 h0.1 (by decide) rfl ?_
    refine V.iload_n dX9_timesHad_12 rfl rfl ?_
    refine V.lconst (v := 0) dX9_timesHad_13 (by decide) ?_
    obtain ⟨o4, H5⟩ := H3
    refine V.last dX9_timesHad_14 h0.2.2.2.2.2.2.2.2.2.2.2.2.2.2.2.2.2.2.2.2.2.1 o4 ?_
    obtain ⟨y6, e7⟩ : ∃ y : Int32, y = x2 + 1 := ⟨_, rfl⟩
    have H8 := H5 y6 e7
    refine V.iinc (v := y6) (lo' := [(2, .int y6), (0, .ref a0), (1, .int x1)]) dX9_timesHad_15 rfl (by rw [e7]; rfl) (by decide) rfl ?_
    refine V.goto (tgt := 2) dX9_timesHad_18 (by decide) ?_
    exact V.los [1, 2, 0] rfl H8
set_option maxRecDepth 100000 in
set_option maxHeartbeats 4000000 in
theorem it_X9_timesHad_23 {S : List mjD} {RET : Option Value → mjH → Prop} {a0 : Nat} (h0 : is_Model S a0) {x1 : Int32} {x2 : Int32} {I : Nat → Nat → Int32} {L : Nat → Nat → Int64} (H0 : (((6 : Int32) ≤ x2 → hd_X9_timesHad_80 S RET a0 (0 : Int32) I L) ∧ (¬ (6 : Int32) ≤ x2 → hd_X9_timesHad_31 S RET a0 x1 x2 (0 : Int32) I L))) : hd_X9_timesHad_23 S RET a0 x1 x2 I L := by
  unfold hd_X9_timesHad_23
  refine V.iload_n dX9_timesHad_23 rfl rfl ?_
  refine V.bipush (v := (6)) dX9_timesHad_24 (by decide) ?_
  refine V.icmp_ge (tgt := 78) dX9_timesHad_26 (by decide) (fun c9 => ?_) (fun c9 => ?_)
  · have H10 := H0.1 c9
    refine V.iconst (v := (0)) dX9_timesHad_78 (by decide) ?_
    refine V.istore_n (lo' := [(2, .int (0 : Int32)), (0, .ref a0), (1, .int x1)]) dX9_timesHad_79 rfl (by decide) rfl ?_
    exact V.los [1, 0] rfl H10
  · have H11 := H0.2 c9
    refine V.iconst (v := (0)) dX9_timesHad_29 (by decide) ?_
    refine V.istore_n (lo' := [(3, .int (0 : Int32)), (0, .ref a0), (1, .int x1), (2, .int x2)]) dX9_timesHad_30 rfl (by decide) rfl ?_
    exact V.los [1, 2, 3, 0] rfl H11
set_option maxRecDepth 100000 in
set_option maxHeartbeats 4000000 in
theorem it_X9_timesHad_80 {S : List mjD} {RET : Option Value → mjH → Prop} {a0 : Nat} (h0 : is_Model S a0) {x2 : Int32} {I : Nat → Nat → Int32} {L : Nat → Nat → Int64} (H0 : (((6 : Int32) ≤ x2 → RET none (S, I, L)) ∧ (¬ (6 : Int32) ≤ x2 → (vp_in x2 12) ∧ (vp_in x2 6) ∧ ∀ y19 : Int32, y19 = x2 + 1 → hd_X9_timesHad_80 S RET a0 y19 I (mj_up L (a0 + 10) x2.toNatClampNeg (L (a0 + 21) x2.toNatClampNeg))))) : hd_X9_timesHad_80 S RET a0 x2 I L := by
  unfold hd_X9_timesHad_80
  refine V.iload_n dX9_timesHad_80 rfl rfl ?_
  refine V.bipush (v := (6)) dX9_timesHad_81 (by decide) ?_
  refine V.icmp_ge (tgt := 104) dX9_timesHad_83 (by decide) (fun c12 => ?_) (fun c12 => ?_)
  · have H13 := H0.1 c12
    exact V.ret rfl (Or.inr (Or.inr (Or.inr ⟨rfl, dX9_timesHad_104, rfl⟩))) ⟨Nat.le_refl _, Nat.le_refl _⟩ H13
  · have H14 := H0.2 c12
    refine V.aload_n dX9_timesHad_86 rfl rfl ?_
    refine V.getf (v := .ref (a0 + 10)) dX9_timesHad_87 fl_X9_39 h0.1 (by decide) rfl ?_
    refine V.iload_n dX9_timesHad_90 rfl rfl ?_
    refine V.aload_n dX9_timesHad_91 rfl rfl ?_
    refine V.getf (v := .ref (a0 + 21)) dX9_timesHad_92 fl_X9_72 h0.1 (by decide) rfl ?_
    refine V.iload_n dX9_timesHad_95 rfl rfl ?_
    obtain ⟨o15, H16⟩ := H14
    refine V.lald dX9_timesHad_96 h0.2.2.2.2.2.2.2.2.2.2.2.2.2.2.2.2.2.2.2.2.2.1 o15 ?_
    obtain ⟨o17, H18⟩ := H16
    refine V.last dX9_timesHad_97 h0.2.2.2.2.2.2.2.2.2.2.1 o17 ?_
    obtain ⟨y19, e20⟩ : ∃ y : Int32, y = x2 + 1 := ⟨_, rfl⟩
    have H21 := H18 y19 e20
    refine V.iinc (v := y19) (lo' := [(2, .int y19), (0, .ref a0)]) dX9_timesHad_98 rfl (by rw [e20]; rfl) (by decide) rfl ?_
    refine V.goto (tgt := 80) dX9_timesHad_101 (by decide) ?_
    exact V.los [1, 0] rfl H21
set_option maxRecDepth 100000 in
set_option maxHeartbeats 4000000 in
theorem it_X9_timesHad_31 {S : List mjD} {RET : Option Value → mjH → Prop} {a0 : Nat} (h0 : is_Model S a0) {x1 : Int32} {x2 : Int32} {x3 : Int32} {I : Nat → Nat → Int32} {L : Nat → Nat → Int64} (H0 : (((6 : Int32) ≤ x3 → ∀ y24 : Int32, y24 = x2 + 1 → hd_X9_timesHad_23 S RET a0 x1 y24 I L) ∧ (¬ (6 : Int32) ≤ x3 → (vp_in (x2 + x3) 12) ∧ (vp_in x2 6) ∧ (vp_in (((6 : Int32) * x1) + x3) 36) ∧ (vp_in (x2 + x3) 12) ∧ ∀ y36 : Int32, y36 = x3 + 1 → hd_X9_timesHad_31 S RET a0 x1 x2 y36 I (mj_up L (a0 + 21) (x2 + x3).toNatClampNeg ((L (a0 + 21) (x2 + x3).toNatClampNeg) + ((L (a0 + 10) x2.toNatClampNeg) * (L (a0 + 23) (((6 : Int32) * x1) + x3).toNatClampNeg))))))) : hd_X9_timesHad_31 S RET a0 x1 x2 x3 I L := by
  unfold hd_X9_timesHad_31
  refine V.iload_n dX9_timesHad_31 rfl rfl ?_
  refine V.bipush (v := (6)) dX9_timesHad_32 (by decide) ?_
  refine V.icmp_ge (tgt := 72) dX9_timesHad_34 (by decide) (fun c22 => ?_) (fun c22 => ?_)
  · have H23 := H0.1 c22
    obtain ⟨y24, e25⟩ : ∃ y : Int32, y = x2 + 1 := ⟨_, rfl⟩
    have H26 := H23 y24 e25
    refine V.iinc (v := y24) (lo' := [(2, .int y24), (0, .ref a0), (1, .int x1), (3, .int x3)]) dX9_timesHad_72 rfl (by rw [e25]; rfl) (by decide) rfl ?_
    refine V.goto (tgt := 23) dX9_timesHad_75 (by decide) ?_
    exact V.los [1, 2, 0] rfl H26
  · have H27 := H0.2 c22
    refine V.aload_n dX9_timesHad_37 rfl rfl ?_
    refine V.getf (v := .ref (a0 + 21)) dX9_timesHad_38 fl_X9_72 h0.1 (by decide) rfl ?_
    refine V.iload_n dX9_timesHad_41 rfl rfl ?_
    refine V.iload_n dX9_timesHad_42 rfl rfl ?_
    refine V.iadd dX9_timesHad_43 ?_
    refine V.dup2 dX9_timesHad_44 rfl rfl ?_
    obtain ⟨o28, H29⟩ := H27
    refine V.lald dX9_timesHad_45 h0.2.2.2.2.2.2.2.2.2.2.2.2.2.2.2.2.2.2.2.2.2.1 o28 ?_
    refine V.aload_n dX9_timesHad_46 rfl rfl ?_
    refine V.getf (v := .ref (a0 + 10)) dX9_timesHad_47 fl_X9_39 h0.1 (by decide) rfl ?_
    refine V.iload_n dX9_timesHad_50 rfl rfl ?_
    obtain ⟨o30, H31⟩ := H29
    refine V.lald dX9_timesHad_51 h0.2.2.2.2.2.2.2.2.2.2.1 o30 ?_
    refine V.aload_n dX9_timesHad_52 rfl rfl ?_
    refine V.getf (v := .ref (a0 + 23)) dX9_timesHad_53 fl_X9_78 h0.1 (by decide) rfl ?_
    refine V.bipush (v := (6)) dX9_timesHad_56 (by decide) ?_
    refine V.iload_n dX9_timesHad_58 rfl rfl ?_
    refine V.imul dX9_timesHad_59 ?_
    refine V.iload_n dX9_timesHad_60 rfl rfl ?_
    refine V.iadd dX9_timesHad_61 ?_
    obtain ⟨o32, H33⟩ := H31
    refine V.lald dX9_timesHad_62 h0.2.2.2.2.2.2.2.2.2.2.2.2.2.2.2.2.2.2.2.2.2.2.2.1 o32 ?_
    refine V.lmul dX9_timesHad_63 ?_
    refine V.ladd dX9_timesHad_64 ?_
    obtain ⟨o34, H35⟩ := H33
    refine V.last dX9_timesHad_65 h0.2.2.2.2.2.2.2.2.2.2.2.2.2.2.2.2.2.2.2.2.2.1 o34 ?_
    obtain ⟨y36, e37⟩ : ∃ y : Int32, y = x3 + 1 := ⟨_, rfl⟩
    have H38 := H35 y36 e37
    refine V.iinc (v := y36) (lo' := [(3, .int y36), (0, .ref a0), (1, .int x1), (2, .int x2)]) dX9_timesHad_66 rfl (by rw [e37]; rfl) (by decide) rfl ?_
    refine V.goto (tgt := 31) dX9_timesHad_69 (by decide) ?_
    exact V.los [1, 2, 3, 0] rfl H38
set_option maxRecDepth 100000 in
set_option maxHeartbeats 4000000 in
theorem wp_X9_timesHad {S : List mjD} {RET : Option Value → mjH → Prop} {m : Nat} (hm : is_Model S m) {a : Int32} {I : Nat → Nat → Int32} {L : Nat → Nat → Int64} (H0 : hd_X9_timesHad_2 S RET m a (0 : Int32) I L) : CT mr_X9_timesHad (0, 0) [.ref m, .int a] (S, I, L) RET := by
  refine CT.of (lo := [(0, .ref m), (1, .int a)]) (by decide) (fun _ _ => Nat.le_of_ble_eq_true rfl) (fun _ _ => rfl) rfl ?_
  refine V.iconst (v := (0)) dX9_timesHad_0 (by decide) ?_
  refine V.istore_n (lo' := [(2, .int (0 : Int32)), (0, .ref m), (1, .int a)]) dX9_timesHad_1 rfl (by decide) rfl ?_
  exact V.los [1, 2, 0] rfl H0
set_option maxRecDepth 100000 in
set_option maxHeartbeats 4000000 in
theorem wp_X9_rest {S : List mjD} {RET : Option Value → mjH → Prop} {a : Int64} {b : Int32} {I : Nat → Nat → Int32} {L : Nat → Nat → Int64} (H0 : (¬ b.toInt64 = 0) ∧ (¬ b.toInt64 = 0) ∧ RET (some (.int ((((a - a / b.toInt64 * b.toInt64) + b.toInt64) - ((a - a / b.toInt64 * b.toInt64) + b.toInt64) / b.toInt64 * b.toInt64).toInt32))) (S, I, L)) : CT mr_X9_rest (0, 0) [.long a, .int b] (S, I, L) RET := by
  refine CT.of (lo := [(0, .long a), (2, .int b)]) (by decide) (fun _ _ => Nat.le_of_ble_eq_true rfl) (fun _ _ => rfl) rfl ?_
  refine V.lload_n dX9_rest_0 rfl rfl ?_
  refine V.iload_n dX9_rest_1 rfl rfl ?_
  refine V.i2l dX9_rest_2 ?_
  obtain ⟨o1, H2⟩ := H0
  refine V.lrem dX9_rest_3 o1 ?_
  refine V.iload_n dX9_rest_4 rfl rfl ?_
  refine V.i2l dX9_rest_5 ?_
  refine V.ladd dX9_rest_6 ?_
  refine V.iload_n dX9_rest_7 rfl rfl ?_
  refine V.i2l dX9_rest_8 ?_
  obtain ⟨o3, H4⟩ := H2
  refine V.lrem dX9_rest_9 o3 ?_
  refine V.l2i dX9_rest_10 ?_
  exact V.ret (v := some (.int ((((a - a / b.toInt64 * b.toInt64) + b.toInt64) - ((a - a / b.toInt64 * b.toInt64) + b.toInt64) / b.toInt64 * b.toInt64).toInt32))) rfl (Or.inl ⟨_, rfl, dX9_rest_11, _, rfl, rfl⟩) ⟨Nat.le_refl _, Nat.le_refl _⟩ H4
set_option maxRecDepth 100000 in
set_option maxHeartbeats 4000000 in
theorem wp_X9_isPrime {S : List mjD} {RET : Option Value → mjH → Prop} {a : Int32} {I : Nat → Nat → Int32} {L : Nat → Nat → Int64} (H0 : ((a = (2 : Int32) → RET (some (.int (1 : Int32))) (S, I, L)) ∧ (¬ a = (2 : Int32) → ((a = (3 : Int32) → RET (some (.int (1 : Int32))) (S, I, L)) ∧ (¬ a = (3 : Int32) → ((a = (5 : Int32) → RET (some (.int (1 : Int32))) (S, I, L)) ∧ (¬ a = (5 : Int32) → ((a = (7 : Int32) → RET (some (.int (1 : Int32))) (S, I, L)) ∧ (¬ a = (7 : Int32) → ((a = (11 : Int32) → RET (some (.int (1 : Int32))) (S, I, L)) ∧ (¬ a = (11 : Int32) → ((¬ a = (13 : Int32) → RET (some (.int (0 : Int32))) (S, I, L)) ∧ (a = (13 : Int32) → RET (some (.int (1 : Int32))) (S, I, L)))))))))))))) : CT mr_X9_isPrime (0, 0) [.int a] (S, I, L) RET := by
  refine CT.of (lo := [(0, .int a)]) (by decide) (fun _ _ => Nat.le_of_ble_eq_true rfl) (fun _ _ => rfl) rfl ?_
  refine V.iload_n dX9_isPrime_0 rfl rfl ?_
  refine V.iconst (v := (2)) dX9_isPrime_1 (by decide) ?_
  refine V.icmp_eq (tgt := 33) dX9_isPrime_2 (by decide) (fun c1 => ?_) (fun c1 => ?_)
  · have H2 := H0.1 c1
    refine V.iconst (v := (1)) dX9_isPrime_33 (by decide) ?_
    refine V.goto (tgt := 38) dX9_isPrime_34 (by decide) ?_
    exact V.ret (v := some (.int (1 : Int32))) rfl (Or.inl ⟨_, rfl, dX9_isPrime_38, _, rfl, (by decide)⟩) ⟨Nat.le_refl _, Nat.le_refl _⟩ H2
  · have H3 := H0.2 c1
    refine V.iload_n dX9_isPrime_5 rfl rfl ?_
    refine V.iconst (v := (3)) dX9_isPrime_6 (by decide) ?_
    refine V.icmp_eq (tgt := 33) dX9_isPrime_7 (by decide) (fun c4 => ?_) (fun c4 => ?_)
    · have H5 := H3.1 c4
      refine V.iconst (v := (1)) dX9_isPrime_33 (by decide) ?_
      refine V.goto (tgt := 38) dX9_isPrime_34 (by decide) ?_
      exact V.ret (v := some (.int (1 : Int32))) rfl (Or.inl ⟨_, rfl, dX9_isPrime_38, _, rfl, (by decide)⟩) ⟨Nat.le_refl _, Nat.le_refl _⟩ H5
    · have H6 := H3.2 c4
      refine V.iload_n dX9_isPrime_10 rfl rfl ?_
      refine V.iconst (v := (5)) dX9_isPrime_11 (by decide) ?_
      refine V.icmp_eq (tgt := 33) dX9_isPrime_12 (by decide) (fun c7 => ?_) (fun c7 => ?_)
      · have H8 := H6.1 c7
        refine V.iconst (v := (1)) dX9_isPrime_33 (by decide) ?_
        refine V.goto (tgt := 38) dX9_isPrime_34 (by decide) ?_
        exact V.ret (v := some (.int (1 : Int32))) rfl (Or.inl ⟨_, rfl, dX9_isPrime_38, _, rfl, (by decide)⟩) ⟨Nat.le_refl _, Nat.le_refl _⟩ H8
      · have H9 := H6.2 c7
        refine V.iload_n dX9_isPrime_15 rfl rfl ?_
        refine V.bipush (v := (7)) dX9_isPrime_16 (by decide) ?_
        refine V.icmp_eq (tgt := 33) dX9_isPrime_18 (by decide) (fun c10 => ?_) (fun c10 => ?_)
        · have H11 := H9.1 c10
          refine V.iconst (v := (1)) dX9_isPrime_33 (by decide) ?_
          refine V.goto (tgt := 38) dX9_isPrime_34 (by decide) ?_
          exact V.ret (v := some (.int (1 : Int32))) rfl (Or.inl ⟨_, rfl, dX9_isPrime_38, _, rfl, (by decide)⟩) ⟨Nat.le_refl _, Nat.le_refl _⟩ H11
        · have H12 := H9.2 c10
          refine V.iload_n dX9_isPrime_21 rfl rfl ?_
          refine V.bipush (v := (11)) dX9_isPrime_22 (by decide) ?_
          refine V.icmp_eq (tgt := 33) dX9_isPrime_24 (by decide) (fun c13 => ?_) (fun c13 => ?_)
          · have H14 := H12.1 c13
            refine V.iconst (v := (1)) dX9_isPrime_33 (by decide) ?_
            refine V.goto (tgt := 38) dX9_isPrime_34 (by decide) ?_
            exact V.ret (v := some (.int (1 : Int32))) rfl (Or.inl ⟨_, rfl, dX9_isPrime_38, _, rfl, (by decide)⟩) ⟨Nat.le_refl _, Nat.le_refl _⟩ H14
          · have H15 := H12.2 c13
            refine V.iload_n dX9_isPrime_27 rfl rfl ?_
            refine V.bipush (v := (13)) dX9_isPrime_28 (by decide) ?_
            refine V.icmp_ne (tgt := 37) dX9_isPrime_30 (by decide) (fun c16 => ?_) (fun c16 => ?_)
            · have H17 := H15.1 c16
              refine V.iconst (v := (0)) dX9_isPrime_37 (by decide) ?_
              exact V.ret (v := some (.int (0 : Int32))) rfl (Or.inl ⟨_, rfl, dX9_isPrime_38, _, rfl, (by decide)⟩) ⟨Nat.le_refl _, Nat.le_refl _⟩ H17
            · have H18 := H15.2 c16
              refine V.iconst (v := (1)) dX9_isPrime_33 (by decide) ?_
              refine V.goto (tgt := 38) dX9_isPrime_34 (by decide) ?_
              exact V.ret (v := some (.int (1 : Int32))) rfl (Or.inl ⟨_, rfl, dX9_isPrime_38, _, rfl, (by decide)⟩) ⟨Nat.le_refl _, Nat.le_refl _⟩ H18
set_option maxRecDepth 100000 in
set_option maxHeartbeats 4000000 in
theorem wp_X9_could {S : List mjD} {RET : Option Value → mjH → Prop} {a : Int32} {b : Int32} {I : Nat → Nat → Int32} {L : Nat → Nat → Int64} (H0 : ((b = 0 → ((a = (1 : Int32) → RET (some (.int (1 : Int32))) (S, I, L)) ∧ (¬ a = (1 : Int32) → ((¬ a = (2 : Int32) → RET (some (.int (0 : Int32))) (S, I, L)) ∧ (a = (2 : Int32) → RET (some (.int (1 : Int32))) (S, I, L)))))) ∧ (b = 1 → ((¬ a = (2 : Int32) → RET (some (.int (0 : Int32))) (S, I, L)) ∧ (a = (2 : Int32) → RET (some (.int (1 : Int32))) (S, I, L)))) ∧ (b = 2 → ((a = 0 → RET (some (.int (0 : Int32))) (S, I, L)) ∧ (¬ a = 0 → RET (some (.int (1 : Int32))) (S, I, L)))) ∧ (b.toInt < 0 ∨ 2 < b.toInt → ((a = 0 → RET (some (.int (0 : Int32))) (S, I, L)) ∧ (¬ a = 0 → ((a = (4 : Int32) → RET (some (.int (0 : Int32))) (S, I, L)) ∧ (¬ a = (4 : Int32) → RET (some (.int (1 : Int32))) (S, I, L)))))))) : CT mr_X9_could (0, 0) [.int a, .int b] (S, I, L) RET := by
  refine CT.of (lo := [(0, .int a), (1, .int b)]) (by decide) (fun _ _ => Nat.le_of_ble_eq_true rfl) (fun _ _ => rfl) rfl ?_
  refine V.iload_n dX9_could_0 rfl rfl ?_
  rcases mj_sw_0_2 b with c1 | c1 | c1 | c1
  · have H3 := H0.1 c1
    refine V.tableIn (off := 27) (tgt := 28) dX9_could_1 (by rw [c1]; decide) (by rw [c1]; decide) (by rw [c1]; rfl) (by decide) ?_
    refine V.iload_n dX9_could_28 rfl rfl ?_
    refine V.iconst (v := (1)) dX9_could_29 (by decide) ?_
    refine V.icmp_eq (tgt := 38) dX9_could_30 (by decide) (fun c4 => ?_) (fun c4 => ?_)
    · have H5 := H3.1 c4
      refine V.iconst (v := (1)) dX9_could_38 (by decide) ?_
      refine V.goto (tgt := 43) dX9_could_39 (by decide) ?_
      exact V.ret (v := some (.int (1 : Int32))) rfl (Or.inl ⟨_, rfl, dX9_could_43, _, rfl, (by decide)⟩) ⟨Nat.le_refl _, Nat.le_refl _⟩ H5
    · have H6 := H3.2 c4
      refine V.iload_n dX9_could_33 rfl rfl ?_
      refine V.iconst (v := (2)) dX9_could_34 (by decide) ?_
      refine V.icmp_ne (tgt := 42) dX9_could_35 (by decide) (fun c7 => ?_) (fun c7 => ?_)
      · have H8 := H6.1 c7
        refine V.iconst (v := (0)) dX9_could_42 (by decide) ?_
        exact V.ret (v := some (.int (0 : Int32))) rfl (Or.inl ⟨_, rfl, dX9_could_43, _, rfl, (by decide)⟩) ⟨Nat.le_refl _, Nat.le_refl _⟩ H8
      · have H9 := H6.2 c7
        refine V.iconst (v := (1)) dX9_could_38 (by decide) ?_
        refine V.goto (tgt := 43) dX9_could_39 (by decide) ?_
        exact V.ret (v := some (.int (1 : Int32))) rfl (Or.inl ⟨_, rfl, dX9_could_43, _, rfl, (by decide)⟩) ⟨Nat.le_refl _, Nat.le_refl _⟩ H9
  · have H10 := H0.2.1 c1
    refine V.tableIn (off := 43) (tgt := 44) dX9_could_1 (by rw [c1]; decide) (by rw [c1]; decide) (by rw [c1]; rfl) (by decide) ?_
    refine V.iload_n dX9_could_44 rfl rfl ?_
    refine V.iconst (v := (2)) dX9_could_45 (by decide) ?_
    refine V.icmp_ne (tgt := 53) dX9_could_46 (by decide) (fun c11 => ?_) (fun c11 => ?_)
    · have H12 := H10.1 c11
      refine V.iconst (v := (0)) dX9_could_53 (by decide) ?_
      exact V.ret (v := some (.int (0 : Int32))) rfl (Or.inl ⟨_, rfl, dX9_could_54, _, rfl, (by decide)⟩) ⟨Nat.le_refl _, Nat.le_refl _⟩ H12
    · have H13 := H10.2 c11
      refine V.iconst (v := (1)) dX9_could_49 (by decide) ?_
      refine V.goto (tgt := 54) dX9_could_50 (by decide) ?_
      exact V.ret (v := some (.int (1 : Int32))) rfl (Or.inl ⟨_, rfl, dX9_could_54, _, rfl, (by decide)⟩) ⟨Nat.le_refl _, Nat.le_refl _⟩ H13
  · have H14 := H0.2.2.1 c1
    refine V.tableIn (off := 54) (tgt := 55) dX9_could_1 (by rw [c1]; decide) (by rw [c1]; decide) (by rw [c1]; rfl) (by decide) ?_
    refine V.iload_n dX9_could_55 rfl rfl ?_
    refine V.if_eq (tgt := 63) dX9_could_56 (by decide) (fun c15 => ?_) (fun c15 => ?_)
    · have H16 := H14.1 c15
      refine V.iconst (v := (0)) dX9_could_63 (by decide) ?_
      exact V.ret (v := some (.int (0 : Int32))) rfl (Or.inl ⟨_, rfl, dX9_could_64, _, rfl, (by decide)⟩) ⟨Nat.le_refl _, Nat.le_refl _⟩ H16
    · have H17 := H14.2 c15
      refine V.iconst (v := (1)) dX9_could_59 (by decide) ?_
      refine V.goto (tgt := 64) dX9_could_60 (by decide) ?_
      exact V.ret (v := some (.int (1 : Int32))) rfl (Or.inl ⟨_, rfl, dX9_could_64, _, rfl, (by decide)⟩) ⟨Nat.le_refl _, Nat.le_refl _⟩ H17
  · have H18 := H0.2.2.2 c1
    refine V.tableOut (tgt := 65) dX9_could_1 c1 (by decide) ?_
    refine V.iload_n dX9_could_65 rfl rfl ?_
    refine V.if_eq (tgt := 78) dX9_could_66 (by decide) (fun c19 => ?_) (fun c19 => ?_)
    · have H20 := H18.1 c19
      refine V.iconst (v := (0)) dX9_could_78 (by decide) ?_
      exact V.ret (v := some (.int (0 : Int32))) rfl (Or.inl ⟨_, rfl, dX9_could_79, _, rfl, (by decide)⟩) ⟨Nat.le_refl _, Nat.le_refl _⟩ H20
    · have H21 := H18.2 c19
      refine V.iload_n dX9_could_69 rfl rfl ?_
      refine V.iconst (v := (4)) dX9_could_70 (by decide) ?_
      refine V.icmp_eq (tgt := 78) dX9_could_71 (by decide) (fun c22 => ?_) (fun c22 => ?_)
      · have H23 := H21.1 c22
        refine V.iconst (v := (0)) dX9_could_78 (by decide) ?_
        exact V.ret (v := some (.int (0 : Int32))) rfl (Or.inl ⟨_, rfl, dX9_could_79, _, rfl, (by decide)⟩) ⟨Nat.le_refl _, Nat.le_refl _⟩ H23
      · have H24 := H21.2 c22
        refine V.iconst (v := (1)) dX9_could_74 (by decide) ?_
        refine V.goto (tgt := 79) dX9_could_75 (by decide) ?_
        exact V.ret (v := some (.int (1 : Int32))) rfl (Or.inl ⟨_, rfl, dX9_could_79, _, rfl, (by decide)⟩) ⟨Nat.le_refl _, Nat.le_refl _⟩ H24
set_option maxRecDepth 100000 in
set_option maxHeartbeats 4000000 in
theorem wp_X9_forget {S : List mjD} {RET : Option Value → mjH → Prop} {m : Nat} (hm : is_Model S m) {I : Nat → Nat → Int32} {L : Nat → Nat → Int64} (H0 : ∀ y1 : Int32, y1 = (I m 5) → RET (some (.int y1)) (S, mj_up I m 5 (0 : Int32), L)) : CT mr_X9_forget (0, 0) [.ref m] (S, I, L) RET := by
  refine CT.of (lo := [(0, .ref m)]) (by decide) (fun _ _ => Nat.le_of_ble_eq_true rfl) (fun _ _ => rfl) rfl ?_
  refine V.aload_n dX9_forget_0 rfl rfl ?_
  refine V.getf (v := .int (I m 5)) dX9_forget_1 fl_X9_174 hm.1 (by decide) rfl ?_
  refine V.topi (fun y1 e2 => ?_)
  have H3 := H0 y1 e2
  refine V.istore_n (lo' := [(1, .int y1), (0, .ref m)]) dX9_forget_4 rfl (by decide) rfl ?_
  refine V.aload_n dX9_forget_5 rfl rfl ?_
  refine V.iconst (v := (0)) dX9_forget_6 (by decide) ?_
  refine V.puti dX9_forget_7 fl_X9_174 fp_X9_174 (Or.inl rfl) hm.1 (by decide) rfl rfl ?_
  refine V.iload_n dX9_forget_10 rfl rfl ?_
  exact V.ret (v := some (.int y1)) rfl (Or.inl ⟨_, rfl, dX9_forget_11, _, rfl, rfl⟩) ⟨Nat.le_refl _, Nat.le_refl _⟩ H3
set_option maxRecDepth 100000 in
set_option maxHeartbeats 4000000 in
theorem wp_X9_draw {S : List mjD} {RET : Option Value → mjH → Prop} {m : Nat} (hm : is_Model S m) {a : Int32} {I : Nat → Nat → Int32} {L : Nat → Nat → Int64} (H0 : (¬ a.toInt64 = 0) ∧ RET (some (.int (((((mj_up L m 47 ((((1103515245 : Int64) * (L m 47)) + (12345 : Int64)) &&& (2147483647 : Int64))) m 47) / (65536 : Int64)) - (((mj_up L m 47 ((((1103515245 : Int64) * (L m 47)) + (12345 : Int64)) &&& (2147483647 : Int64))) m 47) / (65536 : Int64)) / a.toInt64 * a.toInt64).toInt32))) (S, I, mj_up L m 47 ((((1103515245 : Int64) * (L m 47)) + (12345 : Int64)) &&& (2147483647 : Int64)))) : CT mr_X9_draw (0, 0) [.ref m, .int a] (S, I, L) RET := by
  refine CT.of (lo := [(0, .ref m), (1, .int a)]) (by decide) (fun _ _ => Nat.le_of_ble_eq_true rfl) (fun _ _ => rfl) rfl ?_
  refine V.aload_n dX9_draw_0 rfl rfl ?_
  refine V.ldc2 kc_X9_408 dX9_draw_1 ?_
  refine V.aload_n dX9_draw_4 rfl rfl ?_
  refine V.getf (v := .long (L m 47)) dX9_draw_5 fl_X9_410 hm.1 (by decide) rfl ?_
  refine V.lmul dX9_draw_8 ?_
  refine V.ldc2 kc_X9_413 dX9_draw_9 ?_
  refine V.ladd dX9_draw_12 ?_
  refine V.ldc2 kc_X9_415 dX9_draw_13 ?_
  refine V.land dX9_draw_16 ?_
  refine V.putl dX9_draw_17 fl_X9_410 fp_X9_410 rfl hm.1 (by decide) ?_
  refine V.aload_n dX9_draw_20 rfl rfl ?_
  refine V.getf (v := .long ((mj_up L m 47 ((((1103515245 : Int64) * (L m 47)) + (12345 : Int64)) &&& (2147483647 : Int64))) m 47)) dX9_draw_21 fl_X9_410 hm.1 (by decide) rfl ?_
  refine V.ldc2 kc_X9_417 dX9_draw_24 ?_
  refine V.ldiv dX9_draw_27 (by decide) ?_
  refine V.iload_n dX9_draw_28 rfl rfl ?_
  refine V.i2l dX9_draw_29 ?_
  obtain ⟨o1, H2⟩ := H0
  refine V.lrem dX9_draw_30 o1 ?_
  refine V.l2i dX9_draw_31 ?_
  exact V.ret (v := some (.int (((((mj_up L m 47 ((((1103515245 : Int64) * (L m 47)) + (12345 : Int64)) &&& (2147483647 : Int64))) m 47) / (65536 : Int64)) - (((mj_up L m 47 ((((1103515245 : Int64) * (L m 47)) + (12345 : Int64)) &&& (2147483647 : Int64))) m 47) / (65536 : Int64)) / a.toInt64 * a.toInt64).toInt32))) rfl (Or.inl ⟨_, rfl, dX9_draw_32, _, rfl, rfl⟩) ⟨Nat.le_refl _, Nat.le_refl _⟩ H2
def hd_X9_filled_4 (S : List mjD) (RET : Option Value → mjH → Prop) (a0 : Nat) (x1 : Int32) (x2 : Int32) (I : Nat → Nat → Int32) (L : Nat → Nat → Int64) : Prop := V mr_X9_filled (0, 0) RET 4 [(0, .ref a0), (1, .int x1), (2, .int x2)] [] (S, I, L) (0, 0)
set_option maxRecDepth 100000 in
set_option maxHeartbeats 4000000 in
theorem it_X9_filled_4 {S : List mjD} {RET : Option Value → mjH → Prop} {a0 : Nat} (h0 : is_Model S a0) {x1 : Int32} {x2 : Int32} {I : Nat → Nat → Int32} {L : Nat → Nat → Int64} (H0 : (((I a0 1) ≤ x2 → RET (some (.int x1)) (S, I, L)) ∧ (¬ (I a0 1) ≤ x2 → (vp_in x2 4) ∧ (((I (a0 + 3) x2.toNatClampNeg) < 0 → ∀ y8 : Int32, y8 = (x1 + (0 : Int32)) → ∀ y11 : Int32, y11 = x2 + 1 → hd_X9_filled_4 S RET a0 y8 y11 I L) ∧ (¬ (I (a0 + 3) x2.toNatClampNeg) < 0 → ∀ y15 : Int32, y15 = (x1 + (1 : Int32)) → ∀ y18 : Int32, y18 = x2 + 1 → hd_X9_filled_4 S RET a0 y15 y18 I L))))) : hd_X9_filled_4 S RET a0 x1 x2 I L := by
  unfold hd_X9_filled_4
  refine V.iload_n dX9_filled_4 rfl rfl ?_
  refine V.aload_n dX9_filled_5 rfl rfl ?_
  refine V.getf (v := .int (I a0 1)) dX9_filled_6 fl_X9_168 h0.1 (by decide) rfl ?_
  refine V.icmp_ge (tgt := 35) dX9_filled_9 (by decide) (fun c1 => ?_) (fun c1 => ?_)
  · have H2 := H0.1 c1
    refine V.iload_n dX9_filled_35 rfl rfl ?_
    exact V.ret (v := some (.int x1)) rfl (Or.inl ⟨_, rfl, dX9_filled_36, _, rfl, rfl⟩) ⟨Nat.le_refl _, Nat.le_refl _⟩ H2
  · have H3 := H0.2 c1
    refine V.iload_n dX9_filled_12 rfl rfl ?_
    refine V.aload_n dX9_filled_13 rfl rfl ?_
    refine V.getf (v := .ref (a0 + 3)) dX9_filled_14 fl_X9_17 h0.1 (by decide) rfl ?_
    refine V.iload_n dX9_filled_17 rfl rfl ?_
    obtain ⟨o4, H5⟩ := H3
    refine V.iald dX9_filled_18 h0.2.2.2.1 o4 ?_
    refine V.if_lt (tgt := 26) dX9_filled_19 (by decide) (fun c6 => ?_) (fun c6 => ?_)
    · have H7 := H5.1 c6
      refine V.iconst (v := (0)) dX9_filled_26 (by decide) ?_
      refine V.iadd dX9_filled_27 ?_
      refine V.topi (fun y8 e9 => ?_)
      have H10 := H7 y8 e9
      refine V.istore_n (lo' := [(1, .int y8), (0, .ref a0), (2, .int x2)]) dX9_filled_28 rfl (by decide) rfl ?_
      obtain ⟨y11, e12⟩ : ∃ y : Int32, y = x2 + 1 := ⟨_, rfl⟩
      have H13 := H10 y11 e12
      refine V.iinc (v := y11) (lo' := [(2, .int y11), (1, .int y8), (0, .ref a0)]) dX9_filled_29 rfl (by rw [e12]; rfl) (by decide) rfl ?_
      refine V.goto (tgt := 4) dX9_filled_32 (by decide) ?_
      exact V.los [2, 1, 0] rfl H13
    · have H14 := H5.2 c6
      refine V.iconst (v := (1)) dX9_filled_22 (by decide) ?_
      refine V.goto (tgt := 27) dX9_filled_23 (by decide) ?_
      refine V.iadd dX9_filled_27 ?_
      refine V.topi (fun y15 e16 => ?_)
      have H17 := H14 y15 e16
      refine V.istore_n (lo' := [(1, .int y15), (0, .ref a0), (2, .int x2)]) dX9_filled_28 rfl (by decide) rfl ?_
      obtain ⟨y18, e19⟩ : ∃ y : Int32, y = x2 + 1 := ⟨_, rfl⟩
      have H20 := H17 y18 e19
      refine V.iinc (v := y18) (lo' := [(2, .int y18), (1, .int y15), (0, .ref a0)]) dX9_filled_29 rfl (by rw [e19]; rfl) (by decide) rfl ?_
      refine V.goto (tgt := 4) dX9_filled_32 (by decide) ?_
      exact V.los [2, 1, 0] rfl H20
set_option maxRecDepth 100000 in
set_option maxHeartbeats 4000000 in
theorem wp_X9_filled {S : List mjD} {RET : Option Value → mjH → Prop} {m : Nat} (hm : is_Model S m) {I : Nat → Nat → Int32} {L : Nat → Nat → Int64} (H0 : hd_X9_filled_4 S RET m (0 : Int32) (0 : Int32) I L) : CT mr_X9_filled (0, 0) [.ref m] (S, I, L) RET := by
  refine CT.of (lo := [(0, .ref m)]) (by decide) (fun _ _ => Nat.le_of_ble_eq_true rfl) (fun _ _ => rfl) rfl ?_
  refine V.iconst (v := (0)) dX9_filled_0 (by decide) ?_
  refine V.istore_n (lo' := [(1, .int (0 : Int32)), (0, .ref m)]) dX9_filled_1 rfl (by decide) rfl ?_
  refine V.iconst (v := (0)) dX9_filled_2 (by decide) ?_
  refine V.istore_n (lo' := [(2, .int (0 : Int32)), (1, .int (0 : Int32)), (0, .ref m)]) dX9_filled_3 rfl (by decide) rfl ?_
  exact V.los [2, 1, 0] rfl H0
set_option maxRecDepth 100000 in
set_option maxHeartbeats 4000000 in
theorem wp_X9_mix {S : List mjD} {RET : Option Value → mjH → Prop} {m : Nat} (hm : is_Model S m) {a : Int64} {I : Nat → Nat → Int32} {L : Nat → Nat → Int64} (H0 : RET none (S, I, mj_up L m 57 (((31 : Int64) * (L m 57)) + a))) : CT mr_X9_mix (0, 0) [.ref m, .long a] (S, I, L) RET := by
  refine CT.of (lo := [(0, .ref m), (1, .long a)]) (by decide) (fun _ _ => Nat.le_of_ble_eq_true rfl) (fun _ _ => rfl) rfl ?_
  refine V.aload_n dX9_mix_0 rfl rfl ?_
  refine V.ldc2 kc_X9_448 dX9_mix_1 ?_
  refine V.aload_n dX9_mix_4 rfl rfl ?_
  refine V.getf (v := .long (L m 57)) dX9_mix_5 fl_X9_450 hm.1 (by decide) rfl ?_
  refine V.lmul dX9_mix_8 ?_
  refine V.lload_n dX9_mix_9 rfl rfl ?_
  refine V.ladd dX9_mix_10 ?_
  refine V.putl dX9_mix_11 fl_X9_450 fp_X9_450 rfl hm.1 (by decide) ?_
  exact V.ret rfl (Or.inr (Or.inr (Or.inr ⟨rfl, dX9_mix_14, rfl⟩))) ⟨Nat.le_refl _, Nat.le_refl _⟩ H0
def hd_X9_divisor_12 (S : List mjD) (RET : Option Value → mjH → Prop) (x4 : Int64) (x6 : Int64) (I : Nat → Nat → Int32) (L : Nat → Nat → Int64) : Prop := V mr_X9_divisor (0, 0) RET 12 [(4, .long x4), (6, .long x6)] [] (S, I, L) (0, 0)
set_option maxRecDepth 100000 in
set_option maxHeartbeats 4000000 in
theorem it_X9_divisor_12 {S : List mjD} {RET : Option Value → mjH → Prop} {x4 : Int64} {x6 : Int64} {I : Nat → Nat → Int32} {L : Nat → Nat → Int64} (H0 : ((x6 = (0 : Int64) → RET (some (.long x4)) (S, I, L)) ∧ (¬ x6 = (0 : Int64) → (¬ x6 = 0) ∧ ∀ y16 : Int64, y16 = (x4 - x4 / x6 * x6) → hd_X9_divisor_12 S RET x6 y16 I L))) : hd_X9_divisor_12 S RET x4 x6 I L := by
  unfold hd_X9_divisor_12
  refine V.lload dX9_divisor_12 rfl ?_
  refine V.lconst (v := 0) dX9_divisor_14 (by decide) ?_
  refine V.lc_eq (tgt := 37) dX9_divisor_15 dX9_divisor_16 (by decide) (fun c11 => ?_) (fun c11 => ?_)
  · have H12 := H0.1 c11
    refine V.lload dX9_divisor_37 rfl ?_
    exact V.ret (v := some (.long x4)) rfl (Or.inr (Or.inl ⟨_, rfl, dX9_divisor_39, rfl⟩)) ⟨Nat.le_refl _, Nat.le_refl _⟩ H12
  · have H13 := H0.2 c11
    refine V.lload dX9_divisor_19 rfl ?_
    refine V.lload dX9_divisor_21 rfl ?_
    obtain ⟨o14, H15⟩ := H13
    refine V.lrem dX9_divisor_23 o14 ?_
    refine V.topl (fun y16 e17 => ?_)
    have H18 := H15 y16 e17
    refine V.lstore (lo' := [(8, .long y16), (4, .long x4), (6, .long x6)]) dX9_divisor_24 (by decide) rfl ?_
    refine V.lload dX9_divisor_26 rfl ?_
    refine V.lstore (lo' := [(4, .long x6), (8, .long y16), (6, .long x6)]) dX9_divisor_28 (by decide) rfl ?_
    refine V.lload dX9_divisor_30 rfl ?_
    refine V.lstore (lo' := [(6, .long y16), (4, .long x6), (8, .long y16)]) dX9_divisor_32 (by decide) rfl ?_
    refine V.goto (tgt := 12) dX9_divisor_34 (by decide) ?_
    exact V.los [1, 0] rfl H18
set_option maxRecDepth 100000 in
set_option maxHeartbeats 4000000 in
theorem wp_X9_divisor {S : List mjD} {RET : Option Value → mjH → Prop} {a : Int64} {b : Int64} {I : Nat → Nat → Int32} {L : Nat → Nat → Int64} (H0 : ∃ r1 I2 L3, CTl mr_X9_above [.long a] S I L r1 I2 L3 ∧ ∃ r6 I7 L8, CTl mr_X9_above [.long b] S I2 L3 r6 I7 L8 ∧ hd_X9_divisor_12 S RET r1 r6 I7 L8) : CT mr_X9_divisor (0, 0) [.long a, .long b] (S, I, L) RET := by
  refine CT.of (lo := [(0, .long a), (2, .long b)]) (by decide) (fun _ _ => Nat.le_of_ble_eq_true rfl) (fun _ _ => rfl) rfl ?_
  refine V.lload_n dX9_divisor_0 rfl rfl ?_
  obtain ⟨r1, I2, L3, t4, H5⟩ := H0
  refine V.cSl (N := mr_X9_above) (as := [.long a]) dX9_divisor_1 ml_X9_108 ok_X9_above okS_X9_above ⟨Nat.le_of_ble_eq_true rfl, Nat.le_of_ble_eq_true rfl⟩ rfl rfl (Nat.le_of_ble_eq_true rfl) t4 ?_
  refine V.lstore (lo' := [(4, .long r1), (0, .long a), (2, .long b)]) dX9_divisor_4 (by decide) rfl ?_
  refine V.lload_n dX9_divisor_6 rfl rfl ?_
  obtain ⟨r6, I7, L8, t9, H10⟩ := H5
  refine V.cSl (N := mr_X9_above) (as := [.long b]) dX9_divisor_7 ml_X9_108 ok_X9_above okS_X9_above ⟨Nat.le_of_ble_eq_true rfl, Nat.le_of_ble_eq_true rfl⟩ rfl rfl (Nat.le_of_ble_eq_true rfl) t9 ?_
  refine V.lstore (lo' := [(6, .long r6), (4, .long r1), (0, .long a), (2, .long b)]) dX9_divisor_10 (by decide) rfl ?_
  exact V.los [1, 0] rfl H10
def hd_X9_layDivisors_29 (S : List mjD) (RET : Option Value → mjH → Prop) (a0 : Nat) (x1 : Int64) (x3 : Int64) (x5 : Int64) (x7 : Int32) (I : Nat → Nat → Int32) (L : Nat → Nat → Int64) : Prop := V mr_X9_layDivisors (0, 0) RET 29 [(0, .ref a0), (1, .long x1), (3, .long x3), (5, .long x5), (7, .int x7)] [] (S, I, L) (0, 0)
def hd_X9_layDivisors_81 (S : List mjD) (RET : Option Value → mjH → Prop) (a0 : Nat) (x1 : Int64) (x3 : Int64) (x5 : Int64) (x7 : Int64) (I : Nat → Nat → Int32) (L : Nat → Nat → Int64) : Prop := V mr_X9_layDivisors (0, 0) RET 81 [(0, .ref a0), (1, .long x1), (3, .long x3), (5, .long x5), (7, .long x7)] [] (S, I, L) (0, 0)
def hd_X9_layDivisors_130 (S : List mjD) (RET : Option Value → mjH → Prop) (a0 : Nat) (x3 : Int64) (x5 : Int64) (x7 : Int64) (I : Nat → Nat → Int32) (L : Nat → Nat → Int64) : Prop := V mr_X9_layDivisors (0, 0) RET 130 [(0, .ref a0), (3, .long x3), (5, .long x5), (7, .long x7)] [] (S, I, L) (0, 0)
def hd_X9_layDivisors_193 (S : List mjD) (RET : Option Value → mjH → Prop) (a0 : Nat) (x5 : Int64) (x7 : Int64) (I : Nat → Nat → Int32) (L : Nat → Nat → Int64) : Prop := V mr_X9_layDivisors (0, 0) RET 193 [(0, .ref a0), (5, .long x5), (7, .long x7)] [] (S, I, L) (0, 0)
set_option maxRecDepth 100000 in
set_option maxHeartbeats 4000000 in
theorem it_X9_layDivisors_29 {S : List mjD} {RET : Option Value → mjH → Prop} {a0 : Nat} (h0 : is_Model S a0) {x1 : Int64} {x3 : Int64} {x5 : Int64} {x7 : Int32} {I : Nat → Nat → Int32} {L : Nat → Nat → Int64} (H0 : (((I a0 24) < x7 → ∃ r15 I16 L17, CTl mr_X9_above [.long x5] S I L r15 I16 L17 ∧ hd_X9_layDivisors_81 S RET a0 x1 x3 r15 (1 : Int64) (mj_up (mj_up (mj_up I16 a0 32 (0 : Int32)) a0 33 (0 : Int32)) a0 34 (0 : Int32)) L17) ∧ (¬ (I a0 24) < x7 → (vp_in x7 6) ∧ ∀ y23 : Int64, y23 = (x5 + (L (a0 + 14) x7.toNatClampNeg)) → ∀ y26 : Int32, y26 = x7 + 1 → hd_X9_layDivisors_29 S RET a0 x1 x3 y23 y26 I L))) : hd_X9_layDivisors_29 S RET a0 x1 x3 x5 x7 I L := by
  unfold hd_X9_layDivisors_29
  refine V.iload dX9_layDivisors_29 rfl ?_
  refine V.aload_n dX9_layDivisors_31 rfl rfl ?_
  refine V.getf (v := .int (I a0 24)) dX9_layDivisors_32 fl_X9_185 h0.1 (by decide) rfl ?_
  refine V.icmp_gt (tgt := 56) dX9_layDivisors_35 (by decide) (fun c13 => ?_) (fun c13 => ?_)
  · have H14 := H0.1 c13
    refine V.lload dX9_layDivisors_56 rfl ?_
    obtain ⟨r15, I16, L17, t18, H19⟩ := H14
    refine V.cSl (N := mr_X9_above) (as := [.long x5]) dX9_layDivisors_58 ml_X9_108 ok_X9_above okS_X9_above ⟨Nat.le_of_ble_eq_true rfl, Nat.le_of_ble_eq_true rfl⟩ rfl rfl (Nat.le_of_ble_eq_true rfl) t18 ?_
    refine V.lstore (lo' := [(5, .long r15), (0, .ref a0), (1, .long x1), (3, .long x3), (7, .int x7)]) dX9_layDivisors_61 (by decide) rfl ?_
    refine V.aload_n dX9_layDivisors_63 rfl rfl ?_
    refine V.iconst (v := (0)) dX9_layDivisors_64 (by decide) ?_
    refine V.puti dX9_layDivisors_65 fl_X9_218 fp_X9_218 (Or.inl rfl) h0.1 (by decide) rfl rfl ?_
    refine V.aload_n dX9_layDivisors_68 rfl rfl ?_
    refine V.iconst (v := (0)) dX9_layDivisors_69 (by decide) ?_
    refine V.puti dX9_layDivisors_70 fl_X9_221 fp_X9_221 (Or.inl rfl) h0.1 (by decide) rfl rfl ?_
    refine V.aload_n dX9_layDivisors_73 rfl rfl ?_
    refine V.iconst (v := (0)) dX9_layDivisors_74 (by decide) ?_
    refine V.puti dX9_layDivisors_75 fl_X9_224 fp_X9_224 (Or.inl rfl) h0.1 (by decide) rfl rfl ?_
    refine V.lconst (v := 1) dX9_layDivisors_78 (by decide) ?_
    refine V.lstore (lo' := [(7, .long (1 : Int64)), (5, .long r15), (0, .ref a0), (1, .long x1), (3, .long x3)]) dX9_layDivisors_79 (by decide) rfl ?_
    exact V.los [2, 3, 4, 1, 0] rfl H19
  · have H20 := H0.2 c13
    refine V.lload dX9_layDivisors_38 rfl ?_
    refine V.aload_n dX9_layDivisors_40 rfl rfl ?_
    refine V.getf (v := .ref (a0 + 14)) dX9_layDivisors_41 fl_X9_51 h0.1 (by decide) rfl ?_
    refine V.iload dX9_layDivisors_44 rfl ?_
    obtain ⟨o21, H22⟩ := H20
    refine V.lald dX9_layDivisors_46 h0.2.2.2.2.2.2.2.2.2.2.2.2.2.2.1 o21 ?_
    refine V.ladd dX9_layDivisors_47 ?_
    refine V.topl (fun y23 e24 => ?_)
    have H25 := H22 y23 e24
    refine V.lstore (lo' := [(5, .long y23), (0, .ref a0), (1, .long x1), (3, .long x3), (7, .int x7)]) dX9_layDivisors_48 (by decide) rfl ?_
    obtain ⟨y26, e27⟩ : ∃ y : Int32, y = x7 + 1 := ⟨_, rfl⟩
    have H28 := H25 y26 e27
    refine V.iinc (v := y26) (lo' := [(7, .int y26), (5, .long y23), (0, .ref a0), (1, .long x1), (3, .long x3)]) dX9_layDivisors_50 rfl (by rw [e27]; rfl) (by decide) rfl ?_
    refine V.goto (tgt := 29) dX9_layDivisors_53 (by decide) ?_
    exact V.los [2, 3, 4, 1, 0] rfl H28
set_option maxRecDepth 100000 in
set_option maxHeartbeats 4000000 in
theorem it_X9_layDivisors_81 {S : List mjD} {RET : Option Value → mjH → Prop} {a0 : Nat} (h0 : is_Model S a0) {x1 : Int64} {x3 : Int64} {x5 : Int64} {x7 : Int64} {I : Nat → Nat → Int32} {L : Nat → Nat → Int64} (H0 : ((x1 < x7 → hd_X9_layDivisors_130 S RET a0 x3 x5 (1 : Int64) I L) ∧ (¬ x1 < x7 → (¬ x7 = 0) ∧ ((¬ (x1 - x1 / x7 * x7) = (0 : Int64) → ∀ y36 : Int64, y36 = (x7 + (1 : Int64)) → hd_X9_layDivisors_81 S RET a0 x1 x3 x5 y36 I L) ∧ ((x1 - x1 / x7 * x7) = (0 : Int64) → (vp_in (I a0 32) 256) ∧ ∀ y42 : Int64, y42 = (x7 + (1 : Int64)) → hd_X9_layDivisors_81 S RET a0 x1 x3 x5 y42 (mj_up I a0 32 ((I a0 32) + (1 : Int32))) (mj_up L (a0 + 18) (I a0 32).toNatClampNeg x7)))))) : hd_X9_layDivisors_81 S RET a0 x1 x3 x5 x7 I L := by
  unfold hd_X9_layDivisors_81
  refine V.lload dX9_layDivisors_81 rfl ?_
  refine V.lload_n dX9_layDivisors_83 rfl rfl ?_
  refine V.lc_gt (tgt := 127) dX9_layDivisors_84 dX9_layDivisors_85 (by decide) (fun c29 => ?_) (fun c29 => ?_)
  · have H30 := H0.1 c29
    refine V.lconst (v := 1) dX9_layDivisors_127 (by decide) ?_
    refine V.lstore (lo' := [(7, .long (1 : Int64)), (0, .ref a0), (1, .long x1), (3, .long x3), (5, .long x5)]) dX9_layDivisors_128 (by decide) rfl ?_
    exact V.los [1, 3, 4, 0] rfl H30
  · have H31 := H0.2 c29
    refine V.lload_n dX9_layDivisors_88 rfl rfl ?_
    refine V.lload dX9_layDivisors_89 rfl ?_
    obtain ⟨o32, H33⟩ := H31
    refine V.lrem dX9_layDivisors_91 o32 ?_
    refine V.lconst (v := 0) dX9_layDivisors_92 (by decide) ?_
    refine V.lc_ne (tgt := 118) dX9_layDivisors_93 dX9_layDivisors_94 (by decide) (fun c34 => ?_) (fun c34 => ?_)
    · have H35 := H33.1 c34
      refine V.lload dX9_layDivisors_118 rfl ?_
      refine V.lconst (v := 1) dX9_layDivisors_120 (by decide) ?_
      refine V.ladd dX9_layDivisors_121 ?_
      refine V.topl (fun y36 e37 => ?_)
      have H38 := H35 y36 e37
      refine V.lstore (lo' := [(7, .long y36), (0, .ref a0), (1, .long x1), (3, .long x3), (5, .long x5)]) dX9_layDivisors_122 (by decide) rfl ?_
      refine V.goto (tgt := 81) dX9_layDivisors_124 (by decide) ?_
      exact V.los [1, 2, 3, 4, 0] rfl H38
    · have H39 := H33.2 c34
      refine V.aload_n dX9_layDivisors_97 rfl rfl ?_
      refine V.getf (v := .ref (a0 + 18)) dX9_layDivisors_98 fl_X9_63 h0.1 (by decide) rfl ?_
      refine V.aload_n dX9_layDivisors_101 rfl rfl ?_
      refine V.getf (v := .int (I a0 32)) dX9_layDivisors_102 fl_X9_218 h0.1 (by decide) rfl ?_
      refine V.lload dX9_layDivisors_105 rfl ?_
      obtain ⟨o40, H41⟩ := H39
      refine V.last dX9_layDivisors_107 h0.2.2.2.2.2.2.2.2.2.2.2.2.2.2.2.2.2.2.1 o40 ?_
      refine V.aload_n dX9_layDivisors_108 rfl rfl ?_
      refine V.dup dX9_layDivisors_109 rfl ?_
      refine V.getf (v := .int (I a0 32)) dX9_layDivisors_110 fl_X9_218 h0.1 (by decide) rfl ?_
      refine V.iconst (v := (1)) dX9_layDivisors_113 (by decide) ?_
      refine V.iadd dX9_layDivisors_114 ?_
      refine V.puti dX9_layDivisors_115 fl_X9_218 fp_X9_218 (Or.inl rfl) h0.1 (by decide) rfl rfl ?_
      refine V.lload dX9_layDivisors_118 rfl ?_
      refine V.lconst (v := 1) dX9_layDivisors_120 (by decide) ?_
      refine V.ladd dX9_layDivisors_121 ?_
      refine V.topl (fun y42 e43 => ?_)
      have H44 := H41 y42 e43
      refine V.lstore (lo' := [(7, .long y42), (0, .ref a0), (1, .long x1), (3, .long x3), (5, .long x5)]) dX9_layDivisors_122 (by decide) rfl ?_
      refine V.goto (tgt := 81) dX9_layDivisors_124 (by decide) ?_
      exact V.los [1, 2, 3, 4, 0] rfl H44
set_option maxRecDepth 100000 in
set_option maxHeartbeats 4000000 in
theorem it_X9_layDivisors_130 {S : List mjD} {RET : Option Value → mjH → Prop} {a0 : Nat} (h0 : is_Model S a0) {x3 : Int64} {x5 : Int64} {x7 : Int64} {I : Nat → Nat → Int32} {L : Nat → Nat → Int64} (H0 : ((x3 < x7 → hd_X9_layDivisors_193 S RET a0 x5 (1 : Int64) I L) ∧ (¬ x3 < x7 → (¬ x7 = 0) ∧ ((¬ (x3 - x3 / x7 * x7) = (0 : Int64) → ∀ y52 : Int64, y52 = (x7 + (1 : Int64)) → hd_X9_layDivisors_130 S RET a0 x3 x5 y52 I L) ∧ ((x3 - x3 / x7 * x7) = (0 : Int64) → (vp_in (I a0 33) 256) ∧ (vp_in ((I a0 33) + (1 : Int32)) 256) ∧ ∀ y60 : Int64, y60 = (x7 + (1 : Int64)) → hd_X9_layDivisors_130 S RET a0 x3 x5 y60 (mj_up I a0 33 ((I a0 33) + (2 : Int32))) (mj_up (mj_up L (a0 + 19) (I a0 33).toNatClampNeg x7) (a0 + 19) ((I a0 33) + (1 : Int32)).toNatClampNeg (-x7))))))) : hd_X9_layDivisors_130 S RET a0 x3 x5 x7 I L := by
  unfold hd_X9_layDivisors_130
  refine V.lload dX9_layDivisors_130 rfl ?_
  refine V.lload_n dX9_layDivisors_132 rfl rfl ?_
  refine V.lc_gt (tgt := 190) dX9_layDivisors_133 dX9_layDivisors_134 (by decide) (fun c45 => ?_) (fun c45 => ?_)
  · have H46 := H0.1 c45
    refine V.lconst (v := 1) dX9_layDivisors_190 (by decide) ?_
    refine V.lstore (lo' := [(7, .long (1 : Int64)), (0, .ref a0), (3, .long x3), (5, .long x5)]) dX9_layDivisors_191 (by decide) rfl ?_
    exact V.los [1, 3, 0] rfl H46
  · have H47 := H0.2 c45
    refine V.lload_n dX9_layDivisors_137 rfl rfl ?_
    refine V.lload dX9_layDivisors_138 rfl ?_
    obtain ⟨o48, H49⟩ := H47
    refine V.lrem dX9_layDivisors_140 o48 ?_
    refine V.lconst (v := 0) dX9_layDivisors_141 (by decide) ?_
    refine V.lc_ne (tgt := 181) dX9_layDivisors_142 dX9_layDivisors_143 (by decide) (fun c50 => ?_) (fun c50 => ?_)
    · have H51 := H49.1 c50
      refine V.lload dX9_layDivisors_181 rfl ?_
      refine V.lconst (v := 1) dX9_layDivisors_183 (by decide) ?_
      refine V.ladd dX9_layDivisors_184 ?_
      refine V.topl (fun y52 e53 => ?_)
      have H54 := H51 y52 e53
      refine V.lstore (lo' := [(7, .long y52), (0, .ref a0), (3, .long x3), (5, .long x5)]) dX9_layDivisors_185 (by decide) rfl ?_
      refine V.goto (tgt := 130) dX9_layDivisors_187 (by decide) ?_
      exact V.los [1, 2, 3, 0] rfl H54
    · have H55 := H49.2 c50
      refine V.aload_n dX9_layDivisors_146 rfl rfl ?_
      refine V.getf (v := .ref (a0 + 19)) dX9_layDivisors_147 fl_X9_66 h0.1 (by decide) rfl ?_
      refine V.aload_n dX9_layDivisors_150 rfl rfl ?_
      refine V.getf (v := .int (I a0 33)) dX9_layDivisors_151 fl_X9_221 h0.1 (by decide) rfl ?_
      refine V.lload dX9_layDivisors_154 rfl ?_
      obtain ⟨o56, H57⟩ := H55
      refine V.last dX9_layDivisors_156 h0.2.2.2.2.2.2.2.2.2.2.2.2.2.2.2.2.2.2.2.1 o56 ?_
      refine V.aload_n dX9_layDivisors_157 rfl rfl ?_
      refine V.getf (v := .ref (a0 + 19)) dX9_layDivisors_158 fl_X9_66 h0.1 (by decide) rfl ?_
      refine V.aload_n dX9_layDivisors_161 rfl rfl ?_
      refine V.getf (v := .int (I a0 33)) dX9_layDivisors_162 fl_X9_221 h0.1 (by decide) rfl ?_
      refine V.iconst (v := (1)) dX9_layDivisors_165 (by decide) ?_
      refine V.iadd dX9_layDivisors_166 ?_
      refine V.lload dX9_layDivisors_167 rfl ?_
      refine V.lneg dX9_layDivisors_169 ?_
      obtain ⟨o58, H59⟩ := H57
      refine V.last dX9_layDivisors_170 h0.2.2.2.2.2.2.2.2.2.2.2.2.2.2.2.2.2.2.2.1 o58 ?_
      refine V.aload_n dX9_layDivisors_171 rfl rfl ?_
      refine V.dup dX9_layDivisors_172 rfl ?_
      refine V.getf (v := .int (I a0 33)) dX9_layDivisors_173 fl_X9_221 h0.1 (by decide) rfl ?_
      refine V.iconst (v := (2)) dX9_layDivisors_176 (by decide) ?_
      refine V.iadd dX9_layDivisors_177 ?_
      refine V.puti dX9_layDivisors_178 fl_X9_221 fp_X9_221 (Or.inl rfl) h0.1 (by decide) rfl rfl ?_
      refine V.lload dX9_layDivisors_181 rfl ?_
      refine V.lconst (v := 1) dX9_layDivisors_183 (by decide) ?_
      refine V.ladd dX9_layDivisors_184 ?_
      refine V.topl (fun y60 e61 => ?_)
      have H62 := H59 y60 e61
      refine V.lstore (lo' := [(7, .long y60), (0, .ref a0), (3, .long x3), (5, .long x5)]) dX9_layDivisors_185 (by decide) rfl ?_
      refine V.goto (tgt := 130) dX9_layDivisors_187 (by decide) ?_
      exact V.los [1, 2, 3, 0] rfl H62
set_option maxRecDepth 100000 in
set_option maxHeartbeats 4000000 in
theorem it_X9_layDivisors_193 {S : List mjD} {RET : Option Value → mjH → Prop} {a0 : Nat} (h0 : is_Model S a0) {x5 : Int64} {x7 : Int64} {I : Nat → Nat → Int32} {L : Nat → Nat → Int64} (H0 : ((x5 < x7 → RET none (S, I, L)) ∧ (¬ x5 < x7 → (¬ x7 = 0) ∧ ((¬ (x5 - x5 / x7 * x7) = (0 : Int64) → ∀ y70 : Int64, y70 = (x7 + (1 : Int64)) → hd_X9_layDivisors_193 S RET a0 x5 y70 I L) ∧ ((x5 - x5 / x7 * x7) = (0 : Int64) → (vp_in (I a0 34) 256) ∧ (vp_in ((I a0 34) + (1 : Int32)) 256) ∧ ∀ y78 : Int64, y78 = (x7 + (1 : Int64)) → hd_X9_layDivisors_193 S RET a0 x5 y78 (mj_up I a0 34 ((I a0 34) + (2 : Int32))) (mj_up (mj_up L (a0 + 20) (I a0 34).toNatClampNeg x7) (a0 + 20) ((I a0 34) + (1 : Int32)).toNatClampNeg (-x7))))))) : hd_X9_layDivisors_193 S RET a0 x5 x7 I L := by
  unfold hd_X9_layDivisors_193
  refine V.lload dX9_layDivisors_193 rfl ?_
  refine V.lload dX9_layDivisors_195 rfl ?_
  refine V.lc_gt (tgt := 255) dX9_layDivisors_197 dX9_layDivisors_198 (by decide) (fun c63 => ?_) (fun c63 => ?_)
  · have H64 := H0.1 c63
    exact V.ret rfl (Or.inr (Or.inr (Or.inr ⟨rfl, dX9_layDivisors_255, rfl⟩))) ⟨Nat.le_refl _, Nat.le_refl _⟩ H64
  · have H65 := H0.2 c63
    refine V.lload dX9_layDivisors_201 rfl ?_
    refine V.lload dX9_layDivisors_203 rfl ?_
    obtain ⟨o66, H67⟩ := H65
    refine V.lrem dX9_layDivisors_205 o66 ?_
    refine V.lconst (v := 0) dX9_layDivisors_206 (by decide) ?_
    refine V.lc_ne (tgt := 246) dX9_layDivisors_207 dX9_layDivisors_208 (by decide) (fun c68 => ?_) (fun c68 => ?_)
    · have H69 := H67.1 c68
      refine V.lload dX9_layDivisors_246 rfl ?_
      refine V.lconst (v := 1) dX9_layDivisors_248 (by decide) ?_
      refine V.ladd dX9_layDivisors_249 ?_
      refine V.topl (fun y70 e71 => ?_)
      have H72 := H69 y70 e71
      refine V.lstore (lo' := [(7, .long y70), (0, .ref a0), (5, .long x5)]) dX9_layDivisors_250 (by decide) rfl ?_
      refine V.goto (tgt := 193) dX9_layDivisors_252 (by decide) ?_
      exact V.los [1, 2, 0] rfl H72
    · have H73 := H67.2 c68
      refine V.aload_n dX9_layDivisors_211 rfl rfl ?_
      refine V.getf (v := .ref (a0 + 20)) dX9_layDivisors_212 fl_X9_69 h0.1 (by decide) rfl ?_
      refine V.aload_n dX9_layDivisors_215 rfl rfl ?_
      refine V.getf (v := .int (I a0 34)) dX9_layDivisors_216 fl_X9_224 h0.1 (by decide) rfl ?_
      refine V.lload dX9_layDivisors_219 rfl ?_
      obtain ⟨o74, H75⟩ := H73
      refine V.last dX9_layDivisors_221 h0.2.2.2.2.2.2.2.2.2.2.2.2.2.2.2.2.2.2.2.2.1 o74 ?_
      refine V.aload_n dX9_layDivisors_222 rfl rfl ?_
      refine V.getf (v := .ref (a0 + 20)) dX9_layDivisors_223 fl_X9_69 h0.1 (by decide) rfl ?_
      refine V.aload_n dX9_layDivisors_226 rfl rfl ?_
      refine V.getf (v := .int (I a0 34)) dX9_layDivisors_227 fl_X9_224 h0.1 (by decide) rfl ?_
      refine V.iconst (v := (1)) dX9_layDivisors_230 (by decide) ?_
      refine V.iadd dX9_layDivisors_231 ?_
      refine V.lload dX9_layDivisors_232 rfl ?_
      refine V.lneg dX9_layDivisors_234 ?_
      obtain ⟨o76, H77⟩ := H75
      refine V.last dX9_layDivisors_235 h0.2.2.2.2.2.2.2.2.2.2.2.2.2.2.2.2.2.2.2.2.1 o76 ?_
      refine V.aload_n dX9_layDivisors_236 rfl rfl ?_
      refine V.dup dX9_layDivisors_237 rfl ?_
      refine V.getf (v := .int (I a0 34)) dX9_layDivisors_238 fl_X9_224 h0.1 (by decide) rfl ?_
      refine V.iconst (v := (2)) dX9_layDivisors_241 (by decide) ?_
      refine V.iadd dX9_layDivisors_242 ?_
      refine V.puti dX9_layDivisors_243 fl_X9_224 fp_X9_224 (Or.inl rfl) h0.1 (by decide) rfl rfl ?_
      refine V.lload dX9_layDivisors_246 rfl ?_
      refine V.lconst (v := 1) dX9_layDivisors_248 (by decide) ?_
      refine V.ladd dX9_layDivisors_249 ?_
      refine V.topl (fun y78 e79 => ?_)
      have H80 := H77 y78 e79
      refine V.lstore (lo' := [(7, .long y78), (0, .ref a0), (5, .long x5)]) dX9_layDivisors_250 (by decide) rfl ?_
      refine V.goto (tgt := 193) dX9_layDivisors_252 (by decide) ?_
      exact V.los [1, 2, 0] rfl H80
set_option maxRecDepth 100000 in
set_option maxHeartbeats 4000000 in
theorem wp_X9_layDivisors {S : List mjD} {RET : Option Value → mjH → Prop} {m : Nat} (hm : is_Model S m) {I : Nat → Nat → Int32} {L : Nat → Nat → Int64} (H0 : (vp_in (I m 24) 6) ∧ ∃ r3 I4 L5, CTl mr_X9_above [.long (L (m + 14) (I m 24).toNatClampNeg)] S I L r3 I4 L5 ∧ ∃ r8 I9 L10, CTl mr_X9_above [.long (L5 (m + 14) (0 : Int32).toNatClampNeg)] S I4 L5 r8 I9 L10 ∧ hd_X9_layDivisors_29 S RET m r3 r8 (0 : Int64) (0 : Int32) I9 L10) : CT mr_X9_layDivisors (0, 0) [.ref m] (S, I, L) RET := by
  refine CT.of (lo := [(0, .ref m)]) (by decide) (fun _ _ => Nat.le_of_ble_eq_true rfl) (fun _ _ => rfl) rfl ?_
  refine V.aload_n dX9_layDivisors_0 rfl rfl ?_
  refine V.getf (v := .ref (m + 14)) dX9_layDivisors_1 fl_X9_51 hm.1 (by decide) rfl ?_
  refine V.aload_n dX9_layDivisors_4 rfl rfl ?_
  refine V.getf (v := .int (I m 24)) dX9_layDivisors_5 fl_X9_185 hm.1 (by decide) rfl ?_
  obtain ⟨o1, H2⟩ := H0
  refine V.lald dX9_layDivisors_8 hm.2.2.2.2.2.2.2.2.2.2.2.2.2.2.1 o1 ?_
  obtain ⟨r3, I4, L5, t6, H7⟩ := H2
  refine V.cSl (N := mr_X9_above) (as := [.long (L (m + 14) (I m 24).toNatClampNeg)]) dX9_layDivisors_9 ml_X9_108 ok_X9_above okS_X9_above ⟨Nat.le_of_ble_eq_true rfl, Nat.le_of_ble_eq_true rfl⟩ rfl rfl (Nat.le_of_ble_eq_true rfl) t6 ?_
  refine V.lstore_n (lo' := [(1, .long r3), (0, .ref m)]) dX9_layDivisors_12 rfl (by decide) rfl ?_
  refine V.aload_n dX9_layDivisors_13 rfl rfl ?_
  refine V.getf (v := .ref (m + 14)) dX9_layDivisors_14 fl_X9_51 hm.1 (by decide) rfl ?_
  refine V.iconst (v := (0)) dX9_layDivisors_17 (by decide) ?_
  refine V.lald dX9_layDivisors_18 hm.2.2.2.2.2.2.2.2.2.2.2.2.2.2.1 (mj_lit (by decide)) ?_
  obtain ⟨r8, I9, L10, t11, H12⟩ := H7
  refine V.cSl (N := mr_X9_above) (as := [.long (L5 (m + 14) (0 : Int32).toNatClampNeg)]) dX9_layDivisors_19 ml_X9_108 ok_X9_above okS_X9_above ⟨Nat.le_of_ble_eq_true rfl, Nat.le_of_ble_eq_true rfl⟩ rfl rfl (Nat.le_of_ble_eq_true rfl) t11 ?_
  refine V.lstore_n (lo' := [(3, .long r8), (1, .long r3), (0, .ref m)]) dX9_layDivisors_22 rfl (by decide) rfl ?_
  refine V.lconst (v := 0) dX9_layDivisors_23 (by decide) ?_
  refine V.lstore (lo' := [(5, .long (0 : Int64)), (3, .long r8), (1, .long r3), (0, .ref m)]) dX9_layDivisors_24 (by decide) rfl ?_
  refine V.iconst (v := (0)) dX9_layDivisors_26 (by decide) ?_
  refine V.istore (lo' := [(7, .int (0 : Int32)), (5, .long (0 : Int64)), (3, .long r8), (1, .long r3), (0, .ref m)]) dX9_layDivisors_27 (by decide) rfl ?_
  exact V.los [4, 3, 2, 1, 0] rfl H12
def hd_X9_isGreat_4 (S : List mjD) (RET : Option Value → mjH → Prop) (a0 : Nat) (x1 : Int32) (x2 : Int32) (I : Nat → Nat → Int32) (L : Nat → Nat → Int64) : Prop := V mr_X9_isGreat (0, 0) RET 4 [(0, .ref a0), (1, .int x1), (2, .int x2)] [] (S, I, L) (0, 0)
set_option maxRecDepth 100000 in
set_option maxHeartbeats 4000000 in
theorem it_X9_isGreat_4 {S : List mjD} {RET : Option Value → mjH → Prop} {a0 : Nat} (h0 : is_Model S a0) {x1 : Int32} {x2 : Int32} {I : Nat → Nat → Int32} {L : Nat → Nat → Int64} (H0 : (((6 : Int32) ≤ x2 → (x1 = 0 ∨ x1 = 1) ∧ RET (some (.int x1)) (S, I, L)) ∧ (¬ (6 : Int32) ≤ x2 → ((¬ x1 = 0 → ∀ y8 : Int32, y8 = x2 + 1 → hd_X9_isGreat_4 S RET a0 (1 : Int32) y8 I L) ∧ (x1 = 0 → (vp_in x2 6) ∧ ∃ r14 I15 L16, CTl mr_X9_above [.long (L (a0 + 10) x2.toNatClampNeg)] S I L r14 I15 L16 ∧ ((r14 ≤ (999 : Int64) → ∀ y21 : Int32, y21 = x2 + 1 → hd_X9_isGreat_4 S RET a0 (0 : Int32) y21 I15 L16) ∧ (¬ r14 ≤ (999 : Int64) → ∀ y25 : Int32, y25 = x2 + 1 → hd_X9_isGreat_4 S RET a0 (1 : Int32) y25 I15 L16))))))) : hd_X9_isGreat_4 S RET a0 x1 x2 I L := by
  unfold hd_X9_isGreat_4
  refine V.iload_n dX9_isGreat_4 rfl rfl ?_
  refine V.bipush (v := (6)) dX9_isGreat_5 (by decide) ?_
  refine V.icmp_ge (tgt := 42) dX9_isGreat_7 (by decide) (fun c1 => ?_) (fun c1 => ?_)
  · have H2 := H0.1 c1
    refine V.iload_n dX9_isGreat_42 rfl rfl ?_
    obtain ⟨o3, H4⟩ := H2
    exact V.ret (v := some (.int x1)) rfl (Or.inl ⟨_, rfl, dX9_isGreat_43, _, rfl, (mj_zn o3)⟩) ⟨Nat.le_refl _, Nat.le_refl _⟩ H4
  · have H5 := H0.2 c1
    refine V.iload_n dX9_isGreat_10 rfl rfl ?_
    refine V.if_ne (tgt := 30) dX9_isGreat_11 (by decide) (fun c6 => ?_) (fun c6 => ?_)
    · have H7 := H5.1 c6
      refine V.iconst (v := (1)) dX9_isGreat_30 (by decide) ?_
      refine V.goto (tgt := 35) dX9_isGreat_31 (by decide) ?_
      refine V.istore_n (lo' := [(1, .int (1 : Int32)), (0, .ref a0), (2, .int x2)]) dX9_isGreat_35 rfl (by decide) rfl ?_
      obtain ⟨y8, e9⟩ : ∃ y : Int32, y = x2 + 1 := ⟨_, rfl⟩
      have H10 := H7 y8 e9
      refine V.iinc (v := y8) (lo' := [(2, .int y8), (1, .int (1 : Int32)), (0, .ref a0)]) dX9_isGreat_36 rfl (by rw [e9]; rfl) (by decide) rfl ?_
      refine V.goto (tgt := 4) dX9_isGreat_39 (by decide) ?_
      exact V.los [2, 1, 0] rfl H10
    · have H11 := H5.2 c6
      refine V.aload_n dX9_isGreat_14 rfl rfl ?_
      refine V.getf (v := .ref (a0 + 10)) dX9_isGreat_15 fl_X9_39 h0.1 (by decide) rfl ?_
      refine V.iload_n dX9_isGreat_18 rfl rfl ?_
      obtain ⟨o12, H13⟩ := H11
      refine V.lald dX9_isGreat_19 h0.2.2.2.2.2.2.2.2.2.2.1 o12 ?_
      obtain ⟨r14, I15, L16, t17, H18⟩ := H13
      refine V.cSl (N := mr_X9_above) (as := [.long (L (a0 + 10) x2.toNatClampNeg)]) dX9_isGreat_20 ml_X9_108 ok_X9_above okS_X9_above ⟨Nat.le_of_ble_eq_true rfl, Nat.le_of_ble_eq_true rfl⟩ rfl rfl (Nat.le_of_ble_eq_true rfl) t17 ?_
      refine V.ldc2 kc_X9_272 dX9_isGreat_23 ?_
      refine V.lc_le (tgt := 34) dX9_isGreat_26 dX9_isGreat_27 (by decide) (fun c19 => ?_) (fun c19 => ?_)
      · have H20 := H18.1 c19
        refine V.iconst (v := (0)) dX9_isGreat_34 (by decide) ?_
        refine V.istore_n (lo' := [(1, .int (0 : Int32)), (0, .ref a0), (2, .int x2)]) dX9_isGreat_35 rfl (by decide) rfl ?_
        obtain ⟨y21, e22⟩ : ∃ y : Int32, y = x2 + 1 := ⟨_, rfl⟩
        have H23 := H20 y21 e22
        refine V.iinc (v := y21) (lo' := [(2, .int y21), (1, .int (0 : Int32)), (0, .ref a0)]) dX9_isGreat_36 rfl (by rw [e22]; rfl) (by decide) rfl ?_
        refine V.goto (tgt := 4) dX9_isGreat_39 (by decide) ?_
        exact V.los [2, 1, 0] rfl H23
      · have H24 := H18.2 c19
        refine V.iconst (v := (1)) dX9_isGreat_30 (by decide) ?_
        refine V.goto (tgt := 35) dX9_isGreat_31 (by decide) ?_
        refine V.istore_n (lo' := [(1, .int (1 : Int32)), (0, .ref a0), (2, .int x2)]) dX9_isGreat_35 rfl (by decide) rfl ?_
        obtain ⟨y25, e26⟩ : ∃ y : Int32, y = x2 + 1 := ⟨_, rfl⟩
        have H27 := H24 y25 e26
        refine V.iinc (v := y25) (lo' := [(2, .int y25), (1, .int (1 : Int32)), (0, .ref a0)]) dX9_isGreat_36 rfl (by rw [e26]; rfl) (by decide) rfl ?_
        refine V.goto (tgt := 4) dX9_isGreat_39 (by decide) ?_
        exact V.los [2, 1, 0] rfl H27
set_option maxRecDepth 100000 in
set_option maxHeartbeats 4000000 in
theorem wp_X9_isGreat {S : List mjD} {RET : Option Value → mjH → Prop} {m : Nat} (hm : is_Model S m) {I : Nat → Nat → Int32} {L : Nat → Nat → Int64} (H0 : hd_X9_isGreat_4 S RET m (0 : Int32) (0 : Int32) I L) : CT mr_X9_isGreat (0, 0) [.ref m] (S, I, L) RET := by
  refine CT.of (lo := [(0, .ref m)]) (by decide) (fun _ _ => Nat.le_of_ble_eq_true rfl) (fun _ _ => rfl) rfl ?_
  refine V.iconst (v := (0)) dX9_isGreat_0 (by decide) ?_
  refine V.istore_n (lo' := [(1, .int (0 : Int32)), (0, .ref m)]) dX9_isGreat_1 rfl (by decide) rfl ?_
  refine V.iconst (v := (0)) dX9_isGreat_2 (by decide) ?_
  refine V.istore_n (lo' := [(2, .int (0 : Int32)), (1, .int (0 : Int32)), (0, .ref m)]) dX9_isGreat_3 rfl (by decide) rfl ?_
  exact V.los [2, 1, 0] rfl H0
def hd_X9_addTerm_26 (S : List mjD) (RET : Option Value → mjH → Prop) (a0 : Nat) (x1 : Int32) (x2 : Int64) (I : Nat → Nat → Int32) (L : Nat → Nat → Int64) : Prop := V mr_X9_addTerm (0, 0) RET 26 [(0, .ref a0), (1, .int x1), (2, .long x2)] [] (S, I, L) (0, 0)
def hd_X9_addTerm_67 (S : List mjD) (RET : Option Value → mjH → Prop) (a0 : Nat) (x1 : Int32) (x5 : Int64) (I : Nat → Nat → Int32) (L : Nat → Nat → Int64) : Prop := V mr_X9_addTerm (0, 0) RET 67 [(0, .ref a0), (1, .int x1), (5, .long x5)] [] (S, I, L) (0, 0)
def hd_X9_addTerm_110 (S : List mjD) (RET : Option Value → mjH → Prop) (a0 : Nat) (x1 : Int32) (I : Nat → Nat → Int32) (L : Nat → Nat → Int64) : Prop := V mr_X9_addTerm (0, 0) RET 110 [(0, .ref a0), (1, .int x1)] [] (S, I, L) (0, 0)
def hd_X9_addTerm_95 (S : List mjD) (RET : Option Value → mjH → Prop) (a0 : Nat) (x1 : Int32) (x5 : Int64) (I : Nat → Nat → Int32) (L : Nat → Nat → Int64) : Prop := V mr_X9_addTerm (0, 0) RET 95 [(0, .ref a0), (1, .int x1), (5, .long x5)] [] (S, I, L) (0, 0)
def hd_X9_addTerm_120 (S : List mjD) (RET : Option Value → mjH → Prop) (a0 : Nat) (x1 : Int32) (I : Nat → Nat → Int32) (L : Nat → Nat → Int64) : Prop := V mr_X9_addTerm (0, 0) RET 120 [(0, .ref a0), (1, .int x1)] [] (S, I, L) (0, 0)
set_option maxRecDepth 100000 in
set_option maxHeartbeats 4000000 in
theorem it_X9_addTerm_26 {S : List mjD} {RET : Option Value → mjH → Prop} {a0 : Nat} (h0 : is_Model S a0) {x1 : Int32} {x2 : Int64} {I : Nat → Nat → Int32} {L : Nat → Nat → Int64} (H0 : ∃ r17 I18 L19, CTl mr_X9_above [.long x2] S I L r17 I18 L19 ∧ (((1 : Int64) < r17 → ((r17 ≤ (99 : Int64) → hd_X9_addTerm_67 S RET a0 x1 r17 I18 L19) ∧ (¬ r17 ≤ (99 : Int64) → ∃ I28 L29, CTv mr_X9_addSign [.ref a0, .int (((r17 / (100 : Int64)) + (48 : Int64)).toInt32)] S I18 L19 I28 L29 ∧ hd_X9_addTerm_67 S RET a0 x1 r17 I28 L29))) ∧ (¬ (1 : Int64) < r17 → ((¬ x1 = 0 → hd_X9_addTerm_110 S RET a0 x1 I18 L19) ∧ (x1 = 0 → ((r17 ≤ (99 : Int64) → hd_X9_addTerm_67 S RET a0 x1 r17 I18 L19) ∧ (¬ r17 ≤ (99 : Int64) → ∃ I40 L41, CTv mr_X9_addSign [.ref a0, .int (((r17 / (100 : Int64)) + (48 : Int64)).toInt32)] S I18 L19 I40 L41 ∧ hd_X9_addTerm_67 S RET a0 x1 r17 I40 L41))))))) : hd_X9_addTerm_26 S RET a0 x1 x2 I L := by
  unfold hd_X9_addTerm_26
  refine V.lload_n dX9_addTerm_26 rfl rfl ?_
  obtain ⟨r17, I18, L19, t20, H21⟩ := H0
  refine V.cSl (N := mr_X9_above) (as := [.long x2]) dX9_addTerm_27 ml_X9_108 ok_X9_above okS_X9_above ⟨Nat.le_of_ble_eq_true rfl, Nat.le_of_ble_eq_true rfl⟩ rfl rfl (Nat.le_of_ble_eq_true rfl) t20 ?_
  refine V.lstore (lo' := [(5, .long r17), (0, .ref a0), (1, .int x1), (2, .long x2)]) dX9_addTerm_30 (by decide) rfl ?_
  refine V.lload dX9_addTerm_32 rfl ?_
  refine V.lconst (v := 1) dX9_addTerm_34 (by decide) ?_
  refine V.lc_gt (tgt := 43) dX9_addTerm_35 dX9_addTerm_36 (by decide) (fun c22 => ?_) (fun c22 => ?_)
  · have H23 := H21.1 c22
    refine V.lload dX9_addTerm_43 rfl ?_
    refine V.ldc2 kc_X9_289 dX9_addTerm_45 ?_
    refine V.lc_le (tgt := 67) dX9_addTerm_48 dX9_addTerm_49 (by decide) (fun c24 => ?_) (fun c24 => ?_)
    · have H25 := H23.1 c24
      exact V.los [1, 2, 0] rfl H25
    · have H26 := H23.2 c24
      refine V.aload_n dX9_addTerm_52 rfl rfl ?_
      refine V.lload dX9_addTerm_53 rfl ?_
      refine V.ldc2 kc_X9_291 dX9_addTerm_55 ?_
      refine V.ldiv dX9_addTerm_58 (by decide) ?_
      refine V.ldc2 kc_X9_144 dX9_addTerm_59 ?_
      refine V.ladd dX9_addTerm_62 ?_
      refine V.l2i dX9_addTerm_63 ?_
      obtain ⟨I28, L29, t30, H31⟩ := H26
      refine V.cVv (N := mr_X9_addSign) (as := [.int (((r17 / (100 : Int64)) + (48 : Int64)).toInt32)]) dX9_addTerm_64 ml_X9_286 ok_X9_addSign okV_X9_addSign ⟨Nat.le_of_ble_eq_true rfl, Nat.le_of_ble_eq_true rfl⟩ h0.1 rfl rfl rfl (Nat.le_of_ble_eq_true rfl) t30 ?_
      exact V.los [1, 2, 0] rfl H31
  · have H32 := H21.2 c22
    refine V.iload_n dX9_addTerm_39 rfl rfl ?_
    refine V.if_ne (tgt := 110) dX9_addTerm_40 (by decide) (fun c33 => ?_) (fun c33 => ?_)
    · have H34 := H32.1 c33
      exact V.los [1, 2] rfl H34
    · have H35 := H32.2 c33
      refine V.lload dX9_addTerm_43 rfl ?_
      refine V.ldc2 kc_X9_289 dX9_addTerm_45 ?_
      refine V.lc_le (tgt := 67) dX9_addTerm_48 dX9_addTerm_49 (by decide) (fun c36 => ?_) (fun c36 => ?_)
      · have H37 := H35.1 c36
        exact V.los [1, 2, 0] rfl H37
      · have H38 := H35.2 c36
        refine V.aload_n dX9_addTerm_52 rfl rfl ?_
        refine V.lload dX9_addTerm_53 rfl ?_
        refine V.ldc2 kc_X9_291 dX9_addTerm_55 ?_
        refine V.ldiv dX9_addTerm_58 (by decide) ?_
        refine V.ldc2 kc_X9_144 dX9_addTerm_59 ?_
        refine V.ladd dX9_addTerm_62 ?_
        refine V.l2i dX9_addTerm_63 ?_
        obtain ⟨I40, L41, t42, H43⟩ := H38
        refine V.cVv (N := mr_X9_addSign) (as := [.int (((r17 / (100 : Int64)) + (48 : Int64)).toInt32)]) dX9_addTerm_64 ml_X9_286 ok_X9_addSign okV_X9_addSign ⟨Nat.le_of_ble_eq_true rfl, Nat.le_of_ble_eq_true rfl⟩ h0.1 rfl rfl rfl (Nat.le_of_ble_eq_true rfl) t42 ?_
        exact V.los [1, 2, 0] rfl H43
set_option maxRecDepth 100000 in
set_option maxHeartbeats 4000000 in
theorem it_X9_addTerm_67 {S : List mjD} {RET : Option Value → mjH → Prop} {a0 : Nat} (h0 : is_Model S a0) {x1 : Int32} {x5 : Int64} {I : Nat → Nat → Int32} {L : Nat → Nat → Int64} (H0 : ((x5 ≤ (9 : Int64) → hd_X9_addTerm_95 S RET a0 x1 x5 I L) ∧ (¬ x5 ≤ (9 : Int64) → ∃ I48 L49, CTv mr_X9_addSign [.ref a0, .int ((((x5 / (10 : Int64)) - (x5 / (10 : Int64)) / (10 : Int64) * (10 : Int64)) + (48 : Int64)).toInt32)] S I L I48 L49 ∧ hd_X9_addTerm_95 S RET a0 x1 x5 I48 L49))) : hd_X9_addTerm_67 S RET a0 x1 x5 I L := by
  unfold hd_X9_addTerm_67
  refine V.lload dX9_addTerm_67 rfl ?_
  refine V.ldc2 kc_X9_293 dX9_addTerm_69 ?_
  refine V.lc_le (tgt := 95) dX9_addTerm_72 dX9_addTerm_73 (by decide) (fun c44 => ?_) (fun c44 => ?_)
  · have H45 := H0.1 c44
    exact V.los [0, 1, 2] rfl H45
  · have H46 := H0.2 c44
    refine V.aload_n dX9_addTerm_76 rfl rfl ?_
    refine V.lload dX9_addTerm_77 rfl ?_
    refine V.ldc2 kc_X9_142 dX9_addTerm_79 ?_
    refine V.ldiv dX9_addTerm_82 (by decide) ?_
    refine V.ldc2 kc_X9_142 dX9_addTerm_83 ?_
    refine V.lrem dX9_addTerm_86 (by decide) ?_
    refine V.ldc2 kc_X9_144 dX9_addTerm_87 ?_
    refine V.ladd dX9_addTerm_90 ?_
    refine V.l2i dX9_addTerm_91 ?_
    obtain ⟨I48, L49, t50, H51⟩ := H46
    refine V.cVv (N := mr_X9_addSign) (as := [.int ((((x5 / (10 : Int64)) - (x5 / (10 : Int64)) / (10 : Int64) * (10 : Int64)) + (48 : Int64)).toInt32)]) dX9_addTerm_92 ml_X9_286 ok_X9_addSign okV_X9_addSign ⟨Nat.le_of_ble_eq_true rfl, Nat.le_of_ble_eq_true rfl⟩ h0.1 rfl rfl rfl (Nat.le_of_ble_eq_true rfl) t50 ?_
    exact V.los [0, 1, 2] rfl H51
set_option maxRecDepth 100000 in
set_option maxHeartbeats 4000000 in
theorem it_X9_addTerm_110 {S : List mjD} {RET : Option Value → mjH → Prop} {a0 : Nat} (h0 : is_Model S a0) {x1 : Int32} {I : Nat → Nat → Int32} {L : Nat → Nat → Int64} (H0 : ((x1 ≤ 0 → hd_X9_addTerm_120 S RET a0 x1 I L) ∧ (¬ x1 ≤ 0 → ∃ I56 L57, CTv mr_X9_addSign [.ref a0, .int (120 : Int32)] S I L I56 L57 ∧ hd_X9_addTerm_120 S RET a0 x1 I56 L57))) : hd_X9_addTerm_110 S RET a0 x1 I L := by
  unfold hd_X9_addTerm_110
  refine V.iload_n dX9_addTerm_110 rfl rfl ?_
  refine V.if_le (tgt := 120) dX9_addTerm_111 (by decide) (fun c52 => ?_) (fun c52 => ?_)
  · have H53 := H0.1 c52
    exact V.los [0, 1] rfl H53
  · have H54 := H0.2 c52
    refine V.aload_n dX9_addTerm_114 rfl rfl ?_
    refine V.bipush (v := (120)) dX9_addTerm_115 (by decide) ?_
    obtain ⟨I56, L57, t58, H59⟩ := H54
    refine V.cVv (N := mr_X9_addSign) (as := [.int (120 : Int32)]) dX9_addTerm_117 ml_X9_286 ok_X9_addSign okV_X9_addSign ⟨Nat.le_of_ble_eq_true rfl, Nat.le_of_ble_eq_true rfl⟩ h0.1 rfl rfl rfl (Nat.le_of_ble_eq_true rfl) t58 ?_
    exact V.los [0, 1] rfl H59
set_option maxRecDepth 100000 in
set_option maxHeartbeats 4000000 in
theorem it_X9_addTerm_95 {S : List mjD} {RET : Option Value → mjH → Prop} {a0 : Nat} (h0 : is_Model S a0) {x1 : Int32} {x5 : Int64} {I : Nat → Nat → Int32} {L : Nat → Nat → Int64} (H0 : ∃ I61 L62, CTv mr_X9_addSign [.ref a0, .int (((x5 - x5 / (10 : Int64) * (10 : Int64)) + (48 : Int64)).toInt32)] S I L I61 L62 ∧ hd_X9_addTerm_110 S RET a0 x1 I61 L62) : hd_X9_addTerm_95 S RET a0 x1 x5 I L := by
  unfold hd_X9_addTerm_95
  refine V.aload_n dX9_addTerm_95 rfl rfl ?_
  refine V.lload dX9_addTerm_96 rfl ?_
  refine V.ldc2 kc_X9_142 dX9_addTerm_98 ?_
  refine V.lrem dX9_addTerm_101 (by decide) ?_
  refine V.ldc2 kc_X9_144 dX9_addTerm_102 ?_
  refine V.ladd dX9_addTerm_105 ?_
  refine V.l2i dX9_addTerm_106 ?_
  obtain ⟨I61, L62, t63, H64⟩ := H0
  refine V.cVv (N := mr_X9_addSign) (as := [.int (((x5 - x5 / (10 : Int64) * (10 : Int64)) + (48 : Int64)).toInt32)]) dX9_addTerm_107 ml_X9_286 ok_X9_addSign okV_X9_addSign ⟨Nat.le_of_ble_eq_true rfl, Nat.le_of_ble_eq_true rfl⟩ h0.1 rfl rfl rfl (Nat.le_of_ble_eq_true rfl) t63 ?_
  exact V.los [0, 1] rfl H64
set_option maxRecDepth 100000 in
set_option maxHeartbeats 4000000 in
theorem it_X9_addTerm_120 {S : List mjD} {RET : Option Value → mjH → Prop} {a0 : Nat} (h0 : is_Model S a0) {x1 : Int32} {I : Nat → Nat → Int32} {L : Nat → Nat → Int64} (H0 : ((x1 ≤ (1 : Int32) → RET none (S, I, L)) ∧ (¬ x1 ≤ (1 : Int32) → ∃ I69 L70, CTv mr_X9_addSign [.ref a0, .int (94 : Int32)] S I L I69 L70 ∧ ∃ I74 L75, CTv mr_X9_addSign [.ref a0, .int (x1 + (48 : Int32))] S I69 L70 I74 L75 ∧ RET none (S, I74, L75)))) : hd_X9_addTerm_120 S RET a0 x1 I L := by
  unfold hd_X9_addTerm_120
  refine V.iload_n dX9_addTerm_120 rfl rfl ?_
  refine V.iconst (v := (1)) dX9_addTerm_121 (by decide) ?_
  refine V.icmp_le (tgt := 139) dX9_addTerm_122 (by decide) (fun c65 => ?_) (fun c65 => ?_)
  · have H66 := H0.1 c65
    exact V.ret rfl (Or.inr (Or.inr (Or.inr ⟨rfl, dX9_addTerm_139, rfl⟩))) ⟨Nat.le_refl _, Nat.le_refl _⟩ H66
  · have H67 := H0.2 c65
    refine V.aload_n dX9_addTerm_125 rfl rfl ?_
    refine V.bipush (v := (94)) dX9_addTerm_126 (by decide) ?_
    obtain ⟨I69, L70, t71, H72⟩ := H67
    refine V.cVv (N := mr_X9_addSign) (as := [.int (94 : Int32)]) dX9_addTerm_128 ml_X9_286 ok_X9_addSign okV_X9_addSign ⟨Nat.le_of_ble_eq_true rfl, Nat.le_of_ble_eq_true rfl⟩ h0.1 rfl rfl rfl (Nat.le_of_ble_eq_true rfl) t71 ?_
    refine V.aload_n dX9_addTerm_131 rfl rfl ?_
    refine V.iload_n dX9_addTerm_132 rfl rfl ?_
    refine V.bipush (v := (48)) dX9_addTerm_133 (by decide) ?_
    refine V.iadd dX9_addTerm_135 ?_
    obtain ⟨I74, L75, t76, H77⟩ := H72
    refine V.cVv (N := mr_X9_addSign) (as := [.int (x1 + (48 : Int32))]) dX9_addTerm_136 ml_X9_286 ok_X9_addSign okV_X9_addSign ⟨Nat.le_of_ble_eq_true rfl, Nat.le_of_ble_eq_true rfl⟩ h0.1 rfl rfl rfl (Nat.le_of_ble_eq_true rfl) t76 ?_
    exact V.ret rfl (Or.inr (Or.inr (Or.inr ⟨rfl, dX9_addTerm_139, rfl⟩))) ⟨Nat.le_refl _, Nat.le_refl _⟩ H77
set_option maxRecDepth 100000 in
set_option maxHeartbeats 4000000 in
theorem wp_X9_addTerm {S : List mjD} {RET : Option Value → mjH → Prop} {m : Nat} (hm : is_Model S m) {a : Int32} {b : Int64} {c : Int32} {I : Nat → Nat → Int32} {L : Nat → Nat → Int64} (H0 : (((0 : Int64) ≤ b → ((¬ c = 0 → hd_X9_addTerm_26 S RET m a b I L) ∧ (c = 0 → ∃ I7 L8, CTv mr_X9_addSign [.ref m, .int (43 : Int32)] S I L I7 L8 ∧ hd_X9_addTerm_26 S RET m a b I7 L8))) ∧ (¬ (0 : Int64) ≤ b → ∃ I13 L14, CTv mr_X9_addSign [.ref m, .int (45 : Int32)] S I L I13 L14 ∧ hd_X9_addTerm_26 S RET m a b I13 L14))) : CT mr_X9_addTerm (0, 0) [.ref m, .int a, .long b, .int c] (S, I, L) RET := by
  refine CT.of (lo := [(0, .ref m), (1, .int a), (2, .long b), (4, .int c)]) (by decide) (fun _ _ => Nat.le_of_ble_eq_true rfl) (fun _ _ => rfl) rfl ?_
  refine V.lload_n dX9_addTerm_0 rfl rfl ?_
  refine V.lconst (v := 0) dX9_addTerm_1 (by decide) ?_
  refine V.lc_ge (tgt := 15) dX9_addTerm_2 dX9_addTerm_3 (by decide) (fun c1 => ?_) (fun c1 => ?_)
  · have H2 := H0.1 c1
    refine V.iload dX9_addTerm_15 rfl ?_
    refine V.if_ne (tgt := 26) dX9_addTerm_17 (by decide) (fun c3 => ?_) (fun c3 => ?_)
    · have H4 := H2.1 c3
      exact V.los [0, 1, 2] rfl H4
    · have H5 := H2.2 c3
      refine V.aload_n dX9_addTerm_20 rfl rfl ?_
      refine V.bipush (v := (43)) dX9_addTerm_21 (by decide) ?_
      obtain ⟨I7, L8, t9, H10⟩ := H5
      refine V.cVv (N := mr_X9_addSign) (as := [.int (43 : Int32)]) dX9_addTerm_23 ml_X9_286 ok_X9_addSign okV_X9_addSign ⟨Nat.le_of_ble_eq_true rfl, Nat.le_of_ble_eq_true rfl⟩ hm.1 rfl rfl rfl (Nat.le_of_ble_eq_true rfl) t9 ?_
      exact V.los [0, 1, 2] rfl H10
  · have H11 := H0.2 c1
    refine V.aload_n dX9_addTerm_6 rfl rfl ?_
    refine V.bipush (v := (45)) dX9_addTerm_7 (by decide) ?_
    obtain ⟨I13, L14, t15, H16⟩ := H11
    refine V.cVv (N := mr_X9_addSign) (as := [.int (45 : Int32)]) dX9_addTerm_9 ml_X9_286 ok_X9_addSign okV_X9_addSign ⟨Nat.le_of_ble_eq_true rfl, Nat.le_of_ble_eq_true rfl⟩ hm.1 rfl rfl rfl (Nat.le_of_ble_eq_true rfl) t15 ?_
    refine V.goto (tgt := 26) dX9_addTerm_12 (by decide) ?_
    exact V.los [0, 1, 2] rfl H16
def hd_X9_sortsOf_4 (S : List mjD) (RET : Option Value → mjH → Prop) (a0 : Nat) (x1 : Int32) (x2 : Int32) (x3 : Int32) (I : Nat → Nat → Int32) (L : Nat → Nat → Int64) : Prop := V mr_X9_sortsOf (0, 0) RET 4 [(0, .ref a0), (1, .int x1), (2, .int x2), (3, .int x3)] [] (S, I, L) (0, 0)
def hd_X9_sortsOf_15 (S : List mjD) (RET : Option Value → mjH → Prop) (a0 : Nat) (x1 : Int32) (x2 : Int32) (x3 : Int32) (x4 : Int32) (x5 : Int32) (I : Nat → Nat → Int32) (L : Nat → Nat → Int64) : Prop := V mr_X9_sortsOf (0, 0) RET 15 [(0, .ref a0), (1, .int x1), (2, .int x2), (3, .int x3), (4, .int x4), (5, .int x5)] [] (S, I, L) (0, 0)
set_option maxRecDepth 100000 in
set_option maxHeartbeats 4000000 in
theorem it_X9_sortsOf_4 {S : List mjD} {RET : Option Value → mjH → Prop} {a0 : Nat} (h0 : is_Model S a0) {x1 : Int32} {x2 : Int32} {x3 : Int32} {I : Nat → Nat → Int32} {L : Nat → Nat → Int64} (H0 : (((4 : Int32) < x3 → RET (some (.int x2)) (S, I, L)) ∧ (¬ (4 : Int32) < x3 → hd_X9_sortsOf_15 S RET a0 x1 x2 x3 (1 : Int32) (0 : Int32) I L))) : hd_X9_sortsOf_4 S RET a0 x1 x2 x3 I L := by
  unfold hd_X9_sortsOf_4
  refine V.iload_n dX9_sortsOf_4 rfl rfl ?_
  refine V.iconst (v := (4)) dX9_sortsOf_5 (by decide) ?_
  refine V.icmp_gt (tgt := 104) dX9_sortsOf_6 (by decide) (fun c1 => ?_) (fun c1 => ?_)
  · have H2 := H0.1 c1
    refine V.iload_n dX9_sortsOf_104 rfl rfl ?_
    exact V.ret (v := some (.int x2)) rfl (Or.inl ⟨_, rfl, dX9_sortsOf_105, _, rfl, rfl⟩) ⟨Nat.le_refl _, Nat.le_refl _⟩ H2
  · have H3 := H0.2 c1
    refine V.iconst (v := (1)) dX9_sortsOf_9 (by decide) ?_
    refine V.istore (lo' := [(4, .int (1 : Int32)), (0, .ref a0), (1, .int x1), (2, .int x2), (3, .int x3)]) dX9_sortsOf_10 (by decide) rfl ?_
    refine V.iconst (v := (0)) dX9_sortsOf_12 (by decide) ?_
    refine V.istore (lo' := [(5, .int (0 : Int32)), (4, .int (1 : Int32)), (0, .ref a0), (1, .int x1), (2, .int x2), (3, .int x3)]) dX9_sortsOf_13 (by decide) rfl ?_
    exact V.los [2, 3, 4, 5, 1, 0] rfl H3
set_option maxRecDepth 100000 in
set_option maxHeartbeats 4000000 in
theorem it_X9_sortsOf_15 {S : List mjD} {RET : Option Value → mjH → Prop} {a0 : Nat} (h0 : is_Model S a0) {x1 : Int32} {x2 : Int32} {x3 : Int32} {x4 : Int32} {x5 : Int32} {I : Nat → Nat → Int32} {L : Nat → Nat → Int64} (H0 : (((I a0 5) ≤ x5 → ((x4 = 0 → ∀ y8 : Int32, y8 = (x2 ||| (0 : Int32)) → ∀ y11 : Int32, y11 = x3 + 1 → hd_X9_sortsOf_4 S RET a0 x1 y8 y11 I L) ∧ (¬ x4 = 0 → ∀ y15 : Int32, y15 = (x2 ||| ((1 : Int32) <<< (x3 &&& 31))) → ∀ y18 : Int32, y18 = x3 + 1 → hd_X9_sortsOf_4 S RET a0 x1 y15 y18 I L))) ∧ (¬ (I a0 5) ≤ x5 → ((x4 = 0 → ∀ y24 : Int32, y24 = x5 + 1 → hd_X9_sortsOf_15 S RET a0 x1 x2 x3 (0 : Int32) y24 I L) ∧ (¬ x4 = 0 → (vp_in x5 6) ∧ ((¬ (I (a0 + 4) x5.toNatClampNeg) = x1 → ∀ y32 : Int32, y32 = x5 + 1 → hd_X9_sortsOf_15 S RET a0 x1 x2 x3 (1 : Int32) y32 I L) ∧ ((I (a0 + 4) x5.toNatClampNeg) = x1 → (vp_in x5 6) ∧ ∃ r38 I39 L40, CTi mr_X9_could [.int x3, .int (I (a0 + 5) x5.toNatClampNeg)] S I L r38 I39 L40 ∧ (vp_in x5 6) ∧ ((¬ (I39 (a0 + 6) x5.toNatClampNeg) = (1 : Int32) → ((¬ r38 = (0 : Int32) → ∀ y49 : Int32, y49 = x5 + 1 → hd_X9_sortsOf_15 S RET a0 x1 x2 x3 (0 : Int32) y49 I39 L40) ∧ (r38 = (0 : Int32) → ∀ y53 : Int32, y53 = x5 + 1 → hd_X9_sortsOf_15 S RET a0 x1 x2 x3 (1 : Int32) y53 I39 L40))) ∧ ((I39 (a0 + 6) x5.toNatClampNeg) = (1 : Int32) → ((¬ r38 = (1 : Int32) → ∀ y59 : Int32, y59 = x5 + 1 → hd_X9_sortsOf_15 S RET a0 x1 x2 x3 (0 : Int32) y59 I39 L40) ∧ (r38 = (1 : Int32) → ∀ y63 : Int32, y63 = x5 + 1 → hd_X9_sortsOf_15 S RET a0 x1 x2 x3 (1 : Int32) y63 I39 L40))))))))))) : hd_X9_sortsOf_15 S RET a0 x1 x2 x3 x4 x5 I L := by
  unfold hd_X9_sortsOf_15
  refine V.iload dX9_sortsOf_15 rfl ?_
  refine V.aload_n dX9_sortsOf_17 rfl rfl ?_
  refine V.getf (v := .int (I a0 5)) dX9_sortsOf_18 fl_X9_174 h0.1 (by decide) rfl ?_
  refine V.icmp_ge (tgt := 83) dX9_sortsOf_21 (by decide) (fun c4 => ?_) (fun c4 => ?_)
  · have H5 := H0.1 c4
    refine V.iload_n dX9_sortsOf_83 rfl rfl ?_
    refine V.iload dX9_sortsOf_84 rfl ?_
    refine V.if_eq (tgt := 95) dX9_sortsOf_86 (by decide) (fun c6 => ?_) (fun c6 => ?_)
    · have H7 := H5.1 c6
      refine V.iconst (v := (0)) dX9_sortsOf_95 (by decide) ?_
      refine V.ior dX9_sortsOf_96 ?_
      refine V.topi (fun y8 e9 => ?_)
      have H10 := H7 y8 e9
      refine V.istore_n (lo' := [(2, .int y8), (0, .ref a0), (1, .int x1), (3, .int x3), (4, .int x4), (5, .int x5)]) dX9_sortsOf_97 rfl (by decide) rfl ?_
      obtain ⟨y11, e12⟩ : ∃ y : Int32, y = x3 + 1 := ⟨_, rfl⟩
      have H13 := H10 y11 e12
      refine V.iinc (v := y11) (lo' := [(3, .int y11), (2, .int y8), (0, .ref a0), (1, .int x1), (4, .int x4), (5, .int x5)]) dX9_sortsOf_98 rfl (by rw [e12]; rfl) (by decide) rfl ?_
      refine V.goto (tgt := 4) dX9_sortsOf_101 (by decide) ?_
      exact V.los [2, 3, 1, 0] rfl H13
    · have H14 := H5.2 c6
      refine V.iconst (v := (1)) dX9_sortsOf_89 (by decide) ?_
      refine V.iload_n dX9_sortsOf_90 rfl rfl ?_
      refine V.ishl dX9_sortsOf_91 ?_
      refine V.goto (tgt := 96) dX9_sortsOf_92 (by decide) ?_
      refine V.ior dX9_sortsOf_96 ?_
      refine V.topi (fun y15 e16 => ?_)
      have H17 := H14 y15 e16
      refine V.istore_n (lo' := [(2, .int y15), (0, .ref a0), (1, .int x1), (3, .int x3), (4, .int x4), (5, .int x5)]) dX9_sortsOf_97 rfl (by decide) rfl ?_
      obtain ⟨y18, e19⟩ : ∃ y : Int32, y = x3 + 1 := ⟨_, rfl⟩
      have H20 := H17 y18 e19
      refine V.iinc (v := y18) (lo' := [(3, .int y18), (2, .int y15), (0, .ref a0), (1, .int x1), (4, .int x4), (5, .int x5)]) dX9_sortsOf_98 rfl (by rw [e19]; rfl) (by decide) rfl ?_
      refine V.goto (tgt := 4) dX9_sortsOf_101 (by decide) ?_
      exact V.los [2, 3, 1, 0] rfl H20
  · have H21 := H0.2 c4
    refine V.iload dX9_sortsOf_24 rfl ?_
    refine V.if_eq (tgt := 74) dX9_sortsOf_26 (by decide) (fun c22 => ?_) (fun c22 => ?_)
    · have H23 := H21.1 c22
      refine V.iconst (v := (0)) dX9_sortsOf_74 (by decide) ?_
      refine V.istore (lo' := [(4, .int (0 : Int32)), (0, .ref a0), (1, .int x1), (2, .int x2), (3, .int x3), (5, .int x5)]) dX9_sortsOf_75 (by decide) rfl ?_
      obtain ⟨y24, e25⟩ : ∃ y : Int32, y = x5 + 1 := ⟨_, rfl⟩
      have H26 := H23 y24 e25
      refine V.iinc (v := y24) (lo' := [(5, .int y24), (4, .int (0 : Int32)), (0, .ref a0), (1, .int x1), (2, .int x2), (3, .int x3)]) dX9_sortsOf_77 rfl (by rw [e25]; rfl) (by decide) rfl ?_
      refine V.goto (tgt := 15) dX9_sortsOf_80 (by decide) ?_
      exact V.los [2, 3, 4, 5, 1, 0] rfl H26
    · have H27 := H21.2 c22
      refine V.aload_n dX9_sortsOf_29 rfl rfl ?_
      refine V.getf (v := .ref (a0 + 4)) dX9_sortsOf_30 fl_X9_20 h0.1 (by decide) rfl ?_
      refine V.iload dX9_sortsOf_33 rfl ?_
      obtain ⟨o28, H29⟩ := H27
      refine V.iald dX9_sortsOf_35 h0.2.2.2.2.1 o28 ?_
      refine V.iload_n dX9_sortsOf_36 rfl rfl ?_
      refine V.icmp_ne (tgt := 70) dX9_sortsOf_37 (by decide) (fun c30 => ?_) (fun c30 => ?_)
      · have H31 := H29.1 c30
        refine V.iconst (v := (1)) dX9_sortsOf_70 (by decide) ?_
        refine V.goto (tgt := 75) dX9_sortsOf_71 (by decide) ?_
        refine V.istore (lo' := [(4, .int (1 : Int32)), (0, .ref a0), (1, .int x1), (2, .int x2), (3, .int x3), (5, .int x5)]) dX9_sortsOf_75 (by decide) rfl ?_
        obtain ⟨y32, e33⟩ : ∃ y : Int32, y = x5 + 1 := ⟨_, rfl⟩
        have H34 := H31 y32 e33
        refine V.iinc (v := y32) (lo' := [(5, .int y32), (4, .int (1 : Int32)), (0, .ref a0), (1, .int x1), (2, .int x2), (3, .int x3)]) dX9_sortsOf_77 rfl (by rw [e33]; rfl) (by decide) rfl ?_
        refine V.goto (tgt := 15) dX9_sortsOf_80 (by decide) ?_
        exact V.los [2, 3, 4, 5, 1, 0] rfl H34
      · have H35 := H29.2 c30
        refine V.iload_n dX9_sortsOf_40 rfl rfl ?_
        refine V.aload_n dX9_sortsOf_41 rfl rfl ?_
        refine V.getf (v := .ref (a0 + 5)) dX9_sortsOf_42 fl_X9_23 h0.1 (by decide) rfl ?_
        refine V.iload dX9_sortsOf_45 rfl ?_
        obtain ⟨o36, H37⟩ := H35
        refine V.iald dX9_sortsOf_47 h0.2.2.2.2.2.1 o36 ?_
        obtain ⟨r38, I39, L40, t41, H42⟩ := H37
        refine V.cSi (N := mr_X9_could) (as := [.int x3, .int (I (a0 + 5) x5.toNatClampNeg)]) dX9_sortsOf_48 ml_X9_398 ok_X9_could okS_X9_could ⟨Nat.le_of_ble_eq_true rfl, Nat.le_of_ble_eq_true rfl⟩ rfl rfl (Nat.le_of_ble_eq_true rfl) t41 ?_
        refine V.aload_n dX9_sortsOf_51 rfl rfl ?_
        refine V.getf (v := .ref (a0 + 6)) dX9_sortsOf_52 fl_X9_26 h0.1 (by decide) rfl ?_
        refine V.iload dX9_sortsOf_55 rfl ?_
        obtain ⟨o43, H44⟩ := H42
        refine V.iald dX9_sortsOf_57 h0.2.2.2.2.2.2.1 o43 ?_
        refine V.iconst (v := (1)) dX9_sortsOf_58 (by decide) ?_
        refine V.icmp_ne (tgt := 66) dX9_sortsOf_59 (by decide) (fun c45 => ?_) (fun c45 => ?_)
        · have H46 := H44.1 c45
          refine V.iconst (v := (0)) dX9_sortsOf_66 (by decide) ?_
          refine V.icmp_ne (tgt := 74) dX9_sortsOf_67 (by decide) (fun c47 => ?_) (fun c47 => ?_)
          · have H48 := H46.1 c47
            refine V.iconst (v := (0)) dX9_sortsOf_74 (by decide) ?_
            refine V.istore (lo' := [(4, .int (0 : Int32)), (0, .ref a0), (1, .int x1), (2, .int x2), (3, .int x3), (5, .int x5)]) dX9_sortsOf_75 (by decide) rfl ?_
            obtain ⟨y49, e50⟩ : ∃ y : Int32, y = x5 + 1 := ⟨_, rfl⟩
            have H51 := H48 y49 e50
            refine V.iinc (v := y49) (lo' := [(5, .int y49), (4, .int (0 : Int32)), (0, .ref a0), (1, .int x1), (2, .int x2), (3, .int x3)]) dX9_sortsOf_77 rfl (by rw [e50]; rfl) (by decide) rfl ?_
            refine V.goto (tgt := 15) dX9_sortsOf_80 (by decide) ?_
            exact V.los [2, 3, 4, 5, 1, 0] rfl H51
          · have H52 := H46.2 c47
            refine V.iconst (v := (1)) dX9_sortsOf_70 (by decide) ?_
            refine V.goto (tgt := 75) dX9_sortsOf_71 (by decide) ?_
            refine V.istore (lo' := [(4, .int (1 : Int32)), (0, .ref a0), (1, .int x1), (2, .int x2), (3, .int x3), (5, .int x5)]) dX9_sortsOf_75 (by decide) rfl ?_
            obtain ⟨y53, e54⟩ : ∃ y : Int32, y = x5 + 1 := ⟨_, rfl⟩
            have H55 := H52 y53 e54
            refine V.iinc (v := y53) (lo' := [(5, .int y53), (4, .int (1 : Int32)), (0, .ref a0), (1, .int x1), (2, .int x2), (3, .int x3)]) dX9_sortsOf_77 rfl (by rw [e54]; rfl) (by decide) rfl ?_
            refine V.goto (tgt := 15) dX9_sortsOf_80 (by decide) ?_
            exact V.los [2, 3, 4, 5, 1, 0] rfl H55
        · have H56 := H44.2 c45
          refine V.iconst (v := (1)) dX9_sortsOf_62 (by decide) ?_
          refine V.goto (tgt := 67) dX9_sortsOf_63 (by decide) ?_
          refine V.icmp_ne (tgt := 74) dX9_sortsOf_67 (by decide) (fun c57 => ?_) (fun c57 => ?_)
          · have H58 := H56.1 c57
            refine V.iconst (v := (0)) dX9_sortsOf_74 (by decide) ?_
            refine V.istore (lo' := [(4, .int (0 : Int32)), (0, .ref a0), (1, .int x1), (2, .int x2), (3, .int x3), (5, .int x5)]) dX9_sortsOf_75 (by decide) rfl ?_
            obtain ⟨y59, e60⟩ : ∃ y : Int32, y = x5 + 1 := ⟨_, rfl⟩
            have H61 := H58 y59 e60
            refine V.iinc (v := y59) (lo' := [(5, .int y59), (4, .int (0 : Int32)), (0, .ref a0), (1, .int x1), (2, .int x2), (3, .int x3)]) dX9_sortsOf_77 rfl (by rw [e60]; rfl) (by decide) rfl ?_
            refine V.goto (tgt := 15) dX9_sortsOf_80 (by decide) ?_
            exact V.los [2, 3, 4, 5, 1, 0] rfl H61
          · have H62 := H56.2 c57
            refine V.iconst (v := (1)) dX9_sortsOf_70 (by decide) ?_
            refine V.goto (tgt := 75) dX9_sortsOf_71 (by decide) ?_
            refine V.istore (lo' := [(4, .int (1 : Int32)), (0, .ref a0), (1, .int x1), (2, .int x2), (3, .int x3), (5, .int x5)]) dX9_sortsOf_75 (by decide) rfl ?_
            obtain ⟨y63, e64⟩ : ∃ y : Int32, y = x5 + 1 := ⟨_, rfl⟩
            have H65 := H62 y63 e64
            refine V.iinc (v := y63) (lo' := [(5, .int y63), (4, .int (1 : Int32)), (0, .ref a0), (1, .int x1), (2, .int x2), (3, .int x3)]) dX9_sortsOf_77 rfl (by rw [e64]; rfl) (by decide) rfl ?_
            refine V.goto (tgt := 15) dX9_sortsOf_80 (by decide) ?_
            exact V.los [2, 3, 4, 5, 1, 0] rfl H65
set_option maxRecDepth 100000 in
set_option maxHeartbeats 4000000 in
theorem wp_X9_sortsOf {S : List mjD} {RET : Option Value → mjH → Prop} {m : Nat} (hm : is_Model S m) {a : Int32} {I : Nat → Nat → Int32} {L : Nat → Nat → Int64} (H0 : hd_X9_sortsOf_4 S RET m a (0 : Int32) (0 : Int32) I L) : CT mr_X9_sortsOf (0, 0) [.ref m, .int a] (S, I, L) RET := by
  refine CT.of (lo := [(0, .ref m), (1, .int a)]) (by decide) (fun _ _ => Nat.le_of_ble_eq_true rfl) (fun _ _ => rfl) rfl ?_
  refine V.iconst (v := (0)) dX9_sortsOf_0 (by decide) ?_
  refine V.istore_n (lo' := [(2, .int (0 : Int32)), (0, .ref m), (1, .int a)]) dX9_sortsOf_1 rfl (by decide) rfl ?_
  refine V.iconst (v := (0)) dX9_sortsOf_2 (by decide) ?_
  refine V.istore_n (lo' := [(3, .int (0 : Int32)), (2, .int (0 : Int32)), (0, .ref m), (1, .int a)]) dX9_sortsOf_3 rfl (by decide) rfl ?_
  exact V.los [2, 3, 1, 0] rfl H0
def hd_X9_addFactor_2 (S : List mjD) (RET : Option Value → mjH → Prop) (a0 : Nat) (x1 : Int32) (I : Nat → Nat → Int32) (L : Nat → Nat → Int64) : Prop := V mr_X9_addFactor (0, 0) RET 2 [(0, .ref a0), (1, .int x1)] [] (S, I, L) (0, 0)
def hd_X9_addFactor_56 (S : List mjD) (RET : Option Value → mjH → Prop) (a0 : Nat) (x1 : Int32) (x2 : Int32) (I : Nat → Nat → Int32) (L : Nat → Nat → Int64) : Prop := V mr_X9_addFactor (0, 0) RET 56 [(0, .ref a0), (1, .int x1), (2, .int x2)] [] (S, I, L) (0, 0)
def hd_X9_addFactor_153 (S : List mjD) (RET : Option Value → mjH → Prop) (a0 : Nat) (x1 : Int32) (x2 : Int32) (I : Nat → Nat → Int32) (L : Nat → Nat → Int64) : Prop := V mr_X9_addFactor (0, 0) RET 153 [(0, .ref a0), (1, .int x1), (2, .int x2)] [] (S, I, L) (0, 0)
def hd_X9_addFactor_91 (S : List mjD) (RET : Option Value → mjH → Prop) (a0 : Nat) (x1 : Int32) (x2 : Int32) (x3 : Int32) (I : Nat → Nat → Int32) (L : Nat → Nat → Int64) : Prop := V mr_X9_addFactor (0, 0) RET 91 [(0, .ref a0), (1, .int x1), (2, .int x2), (3, .int x3)] [] (S, I, L) (0, 0)
set_option maxRecDepth 100000 in
set_option maxHeartbeats 4000000 in
theorem it_X9_addFactor_2 {S : List mjD} {RET : Option Value → mjH → Prop} {a0 : Nat} (h0 : is_Model S a0) {x1 : Int32} {I : Nat → Nat → Int32} {L : Nat → Nat → Int64} (H0 : (((I a0 19) ≤ x1 → (((I a0 19) ≤ x1 → ∀ y5 : Int32, y5 = (I a0 19) → hd_X9_addFactor_56 S RET a0 x1 y5 I L) ∧ (¬ (I a0 19) ≤ x1 → ∃ r9 I10 L11, CTi mr_X9_compareTo [.ref a0, .int x1] S I L r9 I10 L11 ∧ ((¬ r9 = 0 → ∀ y16 : Int32, y16 = (I10 a0 19) → hd_X9_addFactor_56 S RET a0 x1 y16 I10 L11) ∧ (r9 = 0 → (vp_in x1 6) ∧ (vp_in x1 6) ∧ RET none (S, mj_up I10 (a0 + 12) x1.toNatClampNeg ((I10 (a0 + 12) x1.toNatClampNeg) + (1 : Int32)), L11)))))) ∧ (¬ (I a0 19) ≤ x1 → ∃ r25 I26 L27, CTi mr_X9_compareTo [.ref a0, .int x1] S I L r25 I26 L27 ∧ ((r25 ≤ 0 → (((I26 a0 19) ≤ x1 → ∀ y34 : Int32, y34 = (I26 a0 19) → hd_X9_addFactor_56 S RET a0 x1 y34 I26 L27) ∧ (¬ (I26 a0 19) ≤ x1 → ∃ r38 I39 L40, CTi mr_X9_compareTo [.ref a0, .int x1] S I26 L27 r38 I39 L40 ∧ ((¬ r38 = 0 → ∀ y45 : Int32, y45 = (I39 a0 19) → hd_X9_addFactor_56 S RET a0 x1 y45 I39 L40) ∧ (r38 = 0 → (vp_in x1 6) ∧ (vp_in x1 6) ∧ RET none (S, mj_up I39 (a0 + 12) x1.toNatClampNeg ((I39 (a0 + 12) x1.toNatClampNeg) + (1 : Int32)), L40)))))) ∧ (¬ r25 ≤ 0 → ∀ y54 : Int32, y54 = x1 + 1 → hd_X9_addFactor_2 S RET a0 y54 I26 L27))))) : hd_X9_addFactor_2 S RET a0 x1 I L := by
  unfold hd_X9_addFactor_2
  refine V.iload_n dX9_addFactor_2 rfl rfl ?_
  refine V.aload_n dX9_addFactor_3 rfl rfl ?_
  refine V.getf (v := .int (I a0 19)) dX9_addFactor_4 fl_X9_191 h0.1 (by decide) rfl ?_
  refine V.icmp_ge (tgt := 24) dX9_addFactor_7 (by decide) (fun c1 => ?_) (fun c1 => ?_)
  · have H2 := H0.1 c1
    refine V.iload_n dX9_addFactor_24 rfl rfl ?_
    refine V.aload_n dX9_addFactor_25 rfl rfl ?_
    refine V.getf (v := .int (I a0 19)) dX9_addFactor_26 fl_X9_191 h0.1 (by decide) rfl ?_
    refine V.icmp_ge (tgt := 51) dX9_addFactor_29 (by decide) (fun c3 => ?_) (fun c3 => ?_)
    · have H4 := H2.1 c3
      refine V.aload_n dX9_addFactor_51 rfl rfl ?_
      refine V.getf (v := .int (I a0 19)) dX9_addFactor_52 fl_X9_191 h0.1 (by decide) rfl ?_
      refine V.topi (fun y5 e6 => ?_)
      have H7 := H4 y5 e6
      refine V.istore_n (lo' := [(2, .int y5), (0, .ref a0), (1, .int x1)]) dX9_addFactor_55 rfl (by decide) rfl ?_
      exact V.los [1, 2, 0] rfl H7
    · have H8 := H2.2 c3
      refine V.aload_n dX9_addFactor_32 rfl rfl ?_
      refine V.iload_n dX9_addFactor_33 rfl rfl ?_
      obtain ⟨r9, I10, L11, t12, H13⟩ := H8
      refine V.cVi (N := mr_X9_compareTo) (as := [.int x1]) dX9_addFactor_34 ml_X9_194 ok_X9_compareTo okV_X9_compareTo ⟨Nat.le_of_ble_eq_true rfl, Nat.le_of_ble_eq_true rfl⟩ h0.1 rfl rfl rfl (Nat.le_of_ble_eq_true rfl) t12 ?_
      refine V.if_ne (tgt := 51) dX9_addFactor_37 (by decide) (fun c14 => ?_) (fun c14 => ?_)
      · have H15 := H13.1 c14
        refine V.aload_n dX9_addFactor_51 rfl rfl ?_
        refine V.getf (v := .int (I10 a0 19)) dX9_addFactor_52 fl_X9_191 h0.1 (by decide) rfl ?_
        refine V.topi (fun y16 e17 => ?_)
        have H18 := H15 y16 e17
        refine V.istore_n (lo' := [(2, .int y16), (0, .ref a0), (1, .int x1)]) dX9_addFactor_55 rfl (by decide) rfl ?_
        exact V.los [1, 2, 0] rfl H18
      · have H19 := H13.2 c14
        refine V.aload_n dX9_addFactor_40 rfl rfl ?_
        refine V.getf (v := .ref (a0 + 12)) dX9_addFactor_41 fl_X9_45 h0.1 (by decide) rfl ?_
        refine V.iload_n dX9_addFactor_44 rfl rfl ?_
        refine V.dup2 dX9_addFactor_45 rfl rfl ?_
        obtain ⟨o20, H21⟩ := H19
        refine V.iald dX9_addFactor_46 h0.2.2.2.2.2.2.2.2.2.2.2.2.1 o20 ?_
        refine V.iconst (v := (1)) dX9_addFactor_47 (by decide) ?_
        refine V.iadd dX9_addFactor_48 ?_
        obtain ⟨o22, H23⟩ := H21
        refine V.iast dX9_addFactor_49 h0.2.2.2.2.2.2.2.2.2.2.2.2.1 o22 ?_
        exact V.ret rfl (Or.inr (Or.inr (Or.inr ⟨rfl, dX9_addFactor_50, rfl⟩))) ⟨Nat.le_refl _, Nat.le_refl _⟩ H23
  · have H24 := H0.2 c1
    refine V.aload_n dX9_addFactor_10 rfl rfl ?_
    refine V.iload_n dX9_addFactor_11 rfl rfl ?_
    obtain ⟨r25, I26, L27, t28, H29⟩ := H24
    refine V.cVi (N := mr_X9_compareTo) (as := [.int x1]) dX9_addFactor_12 ml_X9_194 ok_X9_compareTo okV_X9_compareTo ⟨Nat.le_of_ble_eq_true rfl, Nat.le_of_ble_eq_true rfl⟩ h0.1 rfl rfl rfl (Nat.le_of_ble_eq_true rfl) t28 ?_
    refine V.if_le (tgt := 24) dX9_addFactor_15 (by decide) (fun c30 => ?_) (fun c30 => ?_)
    · have H31 := H29.1 c30
      refine V.iload_n dX9_addFactor_24 rfl rfl ?_
      refine V.aload_n dX9_addFactor_25 rfl rfl ?_
      refine V.getf (v := .int (I26 a0 19)) dX9_addFactor_26 fl_X9_191 h0.1 (by decide) rfl ?_
      refine V.icmp_ge (tgt := 51) dX9_addFactor_29 (by decide) (fun c32 => ?_) (fun c32 => ?_)
      · have H33 := H31.1 c32
        refine V.aload_n dX9_addFactor_51 rfl rfl ?_
        refine V.getf (v := .int (I26 a0 19)) dX9_addFactor_52 fl_X9_191 h0.1 (by decide) rfl ?_
        refine V.topi (fun y34 e35 => ?_)
        have H36 := H33 y34 e35
        refine V.istore_n (lo' := [(2, .int y34), (0, .ref a0), (1, .int x1)]) dX9_addFactor_55 rfl (by decide) rfl ?_
        exact V.los [1, 2, 0] rfl H36
      · have H37 := H31.2 c32
        refine V.aload_n dX9_addFactor_32 rfl rfl ?_
        refine V.iload_n dX9_addFactor_33 rfl rfl ?_
        obtain ⟨r38, I39, L40, t41, H42⟩ := H37
        refine V.cVi (N := mr_X9_compareTo) (as := [.int x1]) dX9_addFactor_34 ml_X9_194 ok_X9_compareTo okV_X9_compareTo ⟨Nat.le_of_ble_eq_true rfl, Nat.le_of_ble_eq_true rfl⟩ h0.1 rfl rfl rfl (Nat.le_of_ble_eq_true rfl) t41 ?_
        refine V.if_ne (tgt := 51) dX9_addFactor_37 (by decide) (fun c43 => ?_) (fun c43 => ?_)
        · have H44 := H42.1 c43
          refine V.aload_n dX9_addFactor_51 rfl rfl ?_
          refine V.getf (v := .int (I39 a0 19)) dX9_addFactor_52 fl_X9_191 h0.1 (by decide) rfl ?_
          refine V.topi (fun y45 e46 => ?_)
          have H47 := H44 y45 e46
          refine V.istore_n (lo' := [(2, .int y45), (0, .ref a0), (1, .int x1)]) dX9_addFactor_55 rfl (by decide) rfl ?_
          exact V.los [1, 2, 0] rfl H47
        · have H48 := H42.2 c43
          refine V.aload_n dX9_addFactor_40 rfl rfl ?_
          refine V.getf (v := .ref (a0 + 12)) dX9_addFactor_41 fl_X9_45 h0.1 (by decide) rfl ?_
          refine V.iload_n dX9_addFactor_44 rfl rfl ?_
          refine V.dup2 dX9_addFactor_45 rfl rfl ?_
          obtain ⟨o49, H50⟩ := H48
          refine V.iald dX9_addFactor_46 h0.2.2.2.2.2.2.2.2.2.2.2.2.1 o49 ?_
          refine V.iconst (v := (1)) dX9_addFactor_47 (by decide) ?_
          refine V.iadd dX9_addFactor_48 ?_
          obtain ⟨o51, H52⟩ := H50
          refine V.iast dX9_addFactor_49 h0.2.2.2.2.2.2.2.2.2.2.2.2.1 o51 ?_
          exact V.ret rfl (Or.inr (Or.inr (Or.inr ⟨rfl, dX9_addFactor_50, rfl⟩))) ⟨Nat.le_refl _, Nat.le_refl _⟩ H52
    · have H53 := H29.2 c30
      obtain ⟨y54, e55⟩ : ∃ y : Int32, y = x1 + 1 := ⟨_, rfl⟩
      have H56 := H53 y54 e55
      refine V.iinc (v := y54) (lo' := [(1, .int y54), (0, .ref a0)]) dX9_addFactor_18 rfl (by rw [e55]; rfl) (by decide) rfl ?_
      refine V.goto (tgt := 2) dX9_addFactor_21 (by decide) ?_
      exact V.los [1, 0] rfl H56
set_option maxRecDepth 100000 in
set_option maxHeartbeats 4000000 in
theorem it_X9_addFactor_56 {S : List mjD} {RET : Option Value → mjH → Prop} {a0 : Nat} (h0 : is_Model S a0) {x1 : Int32} {x2 : Int32} {I : Nat → Nat → Int32} {L : Nat → Nat → Int64} (H0 : ((x2 ≤ x1 → (vp_in x1 6) ∧ (vp_in x1 6) ∧ hd_X9_addFactor_153 S RET a0 x1 (0 : Int32) (mj_up (mj_up I (a0 + 12) x1.toNatClampNeg (1 : Int32)) (a0 + 13) x1.toNatClampNeg ((mj_up I (a0 + 12) x1.toNatClampNeg (1 : Int32)) a0 26)) L) ∧ (¬ x2 ≤ x1 → (vp_in (x2 - (1 : Int32)) 6) ∧ (vp_in x2 6) ∧ (vp_in (x2 - (1 : Int32)) 6) ∧ (vp_in x2 6) ∧ hd_X9_addFactor_91 S RET a0 x1 x2 (0 : Int32) (mj_up (mj_up I (a0 + 12) x2.toNatClampNeg (I (a0 + 12) (x2 - (1 : Int32)).toNatClampNeg)) (a0 + 13) x2.toNatClampNeg ((mj_up I (a0 + 12) x2.toNatClampNeg (I (a0 + 12) (x2 - (1 : Int32)).toNatClampNeg)) (a0 + 13) (x2 - (1 : Int32)).toNatClampNeg)) L))) : hd_X9_addFactor_56 S RET a0 x1 x2 I L := by
  unfold hd_X9_addFactor_56
  refine V.iload_n dX9_addFactor_56 rfl rfl ?_
  refine V.iload_n dX9_addFactor_57 rfl rfl ?_
  refine V.icmp_le (tgt := 134) dX9_addFactor_58 (by decide) (fun c57 => ?_) (fun c57 => ?_)
  · have H58 := H0.1 c57
    refine V.aload_n dX9_addFactor_134 rfl rfl ?_
    refine V.getf (v := .ref (a0 + 12)) dX9_addFactor_135 fl_X9_45 h0.1 (by decide) rfl ?_
    refine V.iload_n dX9_addFactor_138 rfl rfl ?_
    refine V.iconst (v := (1)) dX9_addFactor_139 (by decide) ?_
    obtain ⟨o59, H60⟩ := H58
    refine V.iast dX9_addFactor_140 h0.2.2.2.2.2.2.2.2.2.2.2.2.1 o59 ?_
    refine V.aload_n dX9_addFactor_141 rfl rfl ?_
    refine V.getf (v := .ref (a0 + 13)) dX9_addFactor_142 fl_X9_48 h0.1 (by decide) rfl ?_
    refine V.iload_n dX9_addFactor_145 rfl rfl ?_
    refine V.aload_n dX9_addFactor_146 rfl rfl ?_
    refine V.getf (v := .int ((mj_up I (a0 + 12) x1.toNatClampNeg (1 : Int32)) a0 26)) dX9_addFactor_147 fl_X9_188 h0.1 (by decide) rfl ?_
    obtain ⟨o61, H62⟩ := H60
    refine V.iast dX9_addFactor_150 h0.2.2.2.2.2.2.2.2.2.2.2.2.2.1 o61 ?_
    refine V.iconst (v := (0)) dX9_addFactor_151 (by decide) ?_
    refine V.istore_n (lo' := [(2, .int (0 : Int32)), (0, .ref a0), (1, .int x1)]) dX9_addFactor_152 rfl (by decide) rfl ?_
    exact V.los [1, 2, 0] rfl H62
  · have H63 := H0.2 c57
    refine V.aload_n dX9_addFactor_61 rfl rfl ?_
    refine V.getf (v := .ref (a0 + 12)) dX9_addFactor_62 fl_X9_45 h0.1 (by decide) rfl ?_
    refine V.iload_n dX9_addFactor_65 rfl rfl ?_
    refine V.aload_n dX9_addFactor_66 rfl rfl ?_
    refine V.getf (v := .ref (a0 + 12)) dX9_addFactor_67 fl_X9_45 h0.1 (by decide) rfl ?_
    refine V.iload_n dX9_addFactor_70 rfl rfl ?_
    refine V.iconst (v := (1)) dX9_addFactor_71 (by decide) ?_
    refine V.isub dX9_addFactor_72 ?_
    obtain ⟨o64, H65⟩ := H63
    refine V.iald dX9_addFactor_73 h0.2.2.2.2.2.2.2.2.2.2.2.2.1 o64 ?_
    obtain ⟨o66, H67⟩ := H65
    refine V.iast dX9_addFactor_74 h0.2.2.2.2.2.2.2.2.2.2.2.2.1 o66 ?_
    refine V.aload_n dX9_addFactor_75 rfl rfl ?_
    refine V.getf (v := .ref (a0 + 13)) dX9_addFactor_76 fl_X9_48 h0.1 (by decide) rfl ?_
    refine V.iload_n dX9_addFactor_79 rfl rfl ?_
    refine V.aload_n dX9_addFactor_80 rfl rfl ?_
    refine V.getf (v := .ref (a0 + 13)) dX9_addFactor_81 fl_X9_48 h0.1 (by decide) rfl ?_
    refine V.iload_n dX9_addFactor_84 rfl rfl ?_
    refine V.iconst (v := (1)) dX9_addFactor_85 (by decide) ?_
    refine V.isub dX9_addFactor_86 ?_
    obtain ⟨o68, H69⟩ := H67
    refine V.iald dX9_addFactor_87 h0.2.2.2.2.2.2.2.2.2.2.2.2.2.1 o68 ?_
    obtain ⟨o70, H71⟩ := H69
    refine V.iast dX9_addFactor_88 h0.2.2.2.2.2.2.2.2.2.2.2.2.2.1 o70 ?_
    refine V.iconst (v := (0)) dX9_addFactor_89 (by decide) ?_
    refine V.istore_n (lo' := [(3, .int (0 : Int32)), (0, .ref a0), (1, .int x1), (2, .int x2)]) dX9_addFactor_90 rfl (by decide) rfl ?_
    exact V.los [1, 2, 3, 0] rfl H71
set_option maxRecDepth 100000 in
set_option maxHeartbeats 4000000 in
theorem it_X9_addFactor_153 {S : List mjD} {RET : Option Value → mjH → Prop} {a0 : Nat} (h0 : is_Model S a0) {x1 : Int32} {x2 : Int32} {I : Nat → Nat → Int32} {L : Nat → Nat → Int64} (H0 : (((6 : Int32) ≤ x2 → RET none (S, mj_up I a0 19 ((I a0 19) + (1 : Int32)), L)) ∧ (¬ (6 : Int32) ≤ x2 → (((I a0 26) < x2 → (vp_in (((6 : Int32) * x1) + x2) 36) ∧ ∀ y79 : Int32, y79 = x2 + 1 → hd_X9_addFactor_153 S RET a0 x1 y79 I (mj_up L (a0 + 11) (((6 : Int32) * x1) + x2).toNatClampNeg (0 : Int64))) ∧ (¬ (I a0 26) < x2 → (vp_in x2 6) ∧ (vp_in (((6 : Int32) * x1) + x2) 36) ∧ ∀ y87 : Int32, y87 = x2 + 1 → hd_X9_addFactor_153 S RET a0 x1 y87 I (mj_up L (a0 + 11) (((6 : Int32) * x1) + x2).toNatClampNeg (L (a0 + 15) x2.toNatClampNeg))))))) : hd_X9_addFactor_153 S RET a0 x1 x2 I L := by
  unfold hd_X9_addFactor_153
  refine V.iload_n dX9_addFactor_153 rfl rfl ?_
  refine V.bipush (v := (6)) dX9_addFactor_154 (by decide) ?_
  refine V.icmp_ge (tgt := 194) dX9_addFactor_156 (by decide) (fun c72 => ?_) (fun c72 => ?_)
  · have H73 := H0.1 c72
    refine V.aload_n dX9_addFactor_194 rfl rfl ?_
    refine V.dup dX9_addFactor_195 rfl ?_
    refine V.getf (v := .int (I a0 19)) dX9_addFactor_196 fl_X9_191 h0.1 (by decide) rfl ?_
    refine V.iconst (v := (1)) dX9_addFactor_199 (by decide) ?_
    refine V.iadd dX9_addFactor_200 ?_
    refine V.puti dX9_addFactor_201 fl_X9_191 fp_X9_191 (Or.inl rfl) h0.1 (by decide) rfl rfl ?_
    exact V.ret rfl (Or.inr (Or.inr (Or.inr ⟨rfl, dX9_addFactor_204, rfl⟩))) ⟨Nat.le_refl _, Nat.le_refl _⟩ H73
  · have H74 := H0.2 c72
    refine V.aload_n dX9_addFactor_159 rfl rfl ?_
    refine V.getf (v := .ref (a0 + 11)) dX9_addFactor_160 fl_X9_42 h0.1 (by decide) rfl ?_
    refine V.bipush (v := (6)) dX9_addFactor_163 (by decide) ?_
    refine V.iload_n dX9_addFactor_165 rfl rfl ?_
    refine V.imul dX9_addFactor_166 ?_
    refine V.iload_n dX9_addFactor_167 rfl rfl ?_
    refine V.iadd dX9_addFactor_168 ?_
    refine V.iload_n dX9_addFactor_169 rfl rfl ?_
    refine V.aload_n dX9_addFactor_170 rfl rfl ?_
    refine V.getf (v := .int (I a0 26)) dX9_addFactor_171 fl_X9_188 h0.1 (by decide) rfl ?_
    refine V.icmp_gt (tgt := 186) dX9_addFactor_174 (by decide) (fun c75 => ?_) (fun c75 => ?_)
    · have H76 := H74.1 c75
      refine V.lconst (v := 0) dX9_addFactor_186 (by decide) ?_
      obtain ⟨o77, H78⟩ := H76
      refine V.last dX9_addFactor_187 h0.2.2.2.2.2.2.2.2.2.2.2.1 o77 ?_
      obtain ⟨y79, e80⟩ : ∃ y : Int32, y = x2 + 1 := ⟨_, rfl⟩
      have H81 := H78 y79 e80
      refine V.iinc (v := y79) (lo' := [(2, .int y79), (0, .ref a0), (1, .int x1)]) dX9_addFactor_188 rfl (by rw [e80]; rfl) (by decide) rfl ?_
      refine V.goto (tgt := 153) dX9_addFactor_191 (by decide) ?_
      exact V.los [1, 2, 0] rfl H81
    · have H82 := H74.2 c75
      refine V.aload_n dX9_addFactor_177 rfl rfl ?_
      refine V.getf (v := .ref (a0 + 15)) dX9_addFactor_178 fl_X9_54 h0.1 (by decide) rfl ?_
      refine V.iload_n dX9_addFactor_181 rfl rfl ?_
      obtain ⟨o83, H84⟩ := H82
      refine V.lald dX9_addFactor_182 h0.2.2.2.2.2.2.2.2.2.2.2.2.2.2.2.1 o83 ?_
      refine V.goto (tgt := 187) dX9_addFactor_183 (by decide) ?_
      obtain ⟨o85, H86⟩ := H84
      refine V.last dX9_addFactor_187 h0.2.2.2.2.2.2.2.2.2.2.2.1 o85 ?_
      obtain ⟨y87, e88⟩ : ∃ y : Int32, y = x2 + 1 := ⟨_, rfl⟩
      have H89 := H86 y87 e88
      refine V.iinc (v := y87) (lo' := [(2, .int y87), (0, .ref a0), (1, .int x1)]) dX9_addFactor_188 rfl (by rw [e88]; rfl) (by decide) rfl ?_
      refine V.goto (tgt := 153) dX9_addFactor_191 (by decide) ?_
      exact V.los [1, 2, 0] rfl H89
set_option maxRecDepth 100000 in
set_option maxHeartbeats 4000000 in
theorem it_X9_addFactor_91 {S : List mjD} {RET : Option Value → mjH → Prop} {a0 : Nat} (h0 : is_Model S a0) {x1 : Int32} {x2 : Int32} {x3 : Int32} {I : Nat → Nat → Int32} {L : Nat → Nat → Int64} (H0 : (((6 : Int32) ≤ x3 → ∀ y92 : Int32, y92 = x2 + (-1) → hd_X9_addFactor_56 S RET a0 x1 y92 I L) ∧ (¬ (6 : Int32) ≤ x3 → (vp_in ((((6 : Int32) * x2) - (6 : Int32)) + x3) 36) ∧ (vp_in (((6 : Int32) * x2) + x3) 36) ∧ ∀ y100 : Int32, y100 = x3 + 1 → hd_X9_addFactor_91 S RET a0 x1 x2 y100 I (mj_up L (a0 + 11) (((6 : Int32) * x2) + x3).toNatClampNeg (L (a0 + 11) ((((6 : Int32) * x2) - (6 : Int32)) + x3).toNatClampNeg))))) : hd_X9_addFactor_91 S RET a0 x1 x2 x3 I L := by
  unfold hd_X9_addFactor_91
  refine V.iload_n dX9_addFactor_91 rfl rfl ?_
  refine V.bipush (v := (6)) dX9_addFactor_92 (by decide) ?_
  refine V.icmp_ge (tgt := 128) dX9_addFactor_94 (by decide) (fun c90 => ?_) (fun c90 => ?_)
  · have H91 := H0.1 c90
    obtain ⟨y92, e93⟩ : ∃ y : Int32, y = x2 + (-1) := ⟨_, rfl⟩
    have H94 := H91 y92 e93
    refine V.iinc (v := y92) (lo' := [(2, .int y92), (0, .ref a0), (1, .int x1), (3, .int x3)]) dX9_addFactor_128 rfl (by rw [e93]; rfl) (by decide) rfl ?_
    refine V.goto (tgt := 56) dX9_addFactor_131 (by decide) ?_
    exact V.los [1, 2, 0] rfl H94
  · have H95 := H0.2 c90
    refine V.aload_n dX9_addFactor_97 rfl rfl ?_
    refine V.getf (v := .ref (a0 + 11)) dX9_addFactor_98 fl_X9_42 h0.1 (by decide) rfl ?_
    refine V.bipush (v := (6)) dX9_addFactor_101 (by decide) ?_
    refine V.iload_n dX9_addFactor_103 rfl rfl ?_
    refine V.imul dX9_addFactor_104 ?_
    refine V.iload_n dX9_addFactor_105 rfl rfl ?_
    refine V.iadd dX9_addFactor_106 ?_
    refine V.aload_n dX9_addFactor_107 rfl rfl ?_
    refine V.getf (v := .ref (a0 + 11)) dX9_addFactor_108 fl_X9_42 h0.1 (by decide) rfl ?_
    refine V.bipush (v := (6)) dX9_addFactor_111 (by decide) ?_
    refine V.iload_n dX9_addFactor_113 rfl rfl ?_
    refine V.imul dX9_addFactor_114 ?_
    refine V.bipush (v := (6)) dX9_addFactor_115 (by decide) ?_
    refine V.isub dX9_addFactor_117 ?_
    refine V.iload_n dX9_addFactor_118 rfl rfl ?_
    refine V.iadd dX9_addFactor_119 ?_
    obtain ⟨o96, H97⟩ := H95
    refine V.lald dX9_addFactor_120 h0.2.2.2.2.2.2.2.2.2.2.2.1 o96 ?_
    obtain ⟨o98, H99⟩ := H97
    refine V.last dX9_addFactor_121 h0.2.2.2.2.2.2.2.2.2.2.2.1 o98 ?_
    obtain ⟨y100, e101⟩ : ∃ y : Int32, y = x3 + 1 := ⟨_, rfl⟩
    have H102 := H99 y100 e101
    refine V.iinc (v := y100) (lo' := [(3, .int y100), (0, .ref a0), (1, .int x1), (2, .int x2)]) dX9_addFactor_122 rfl (by rw [e101]; rfl) (by decide) rfl ?_
    refine V.goto (tgt := 91) dX9_addFactor_125 (by decide) ?_
    exact V.los [1, 2, 3, 0] rfl H102
set_option maxRecDepth 100000 in
set_option maxHeartbeats 4000000 in
theorem wp_X9_addFactor {S : List mjD} {RET : Option Value → mjH → Prop} {m : Nat} (hm : is_Model S m) {I : Nat → Nat → Int32} {L : Nat → Nat → Int64} (H0 : hd_X9_addFactor_2 S RET m (0 : Int32) I L) : CT mr_X9_addFactor (0, 0) [.ref m] (S, I, L) RET := by
  refine CT.of (lo := [(0, .ref m)]) (by decide) (fun _ _ => Nat.le_of_ble_eq_true rfl) (fun _ _ => rfl) rfl ?_
  refine V.iconst (v := (0)) dX9_addFactor_0 (by decide) ?_
  refine V.istore_n (lo' := [(1, .int (0 : Int32)), (0, .ref m)]) dX9_addFactor_1 rfl (by decide) rfl ?_
  exact V.los [1, 0] rfl H0
def hd_X9_dividesBy_13 (S : List mjD) (RET : Option Value → mjH → Prop) (a0 : Nat) (x1 : Int32) (x2 : Int32) (x3 : Int32) (x4 : Int32) (x5 : Int32) (I : Nat → Nat → Int32) (L : Nat → Nat → Int64) : Prop := V mr_X9_dividesBy (0, 0) RET 13 [(0, .ref a0), (1, .int x1), (2, .int x2), (3, .int x3), (4, .int x4), (5, .int x5)] [] (S, I, L) (0, 0)
def hd_X9_dividesBy_46 (S : List mjD) (RET : Option Value → mjH → Prop) (a0 : Nat) (x1 : Int32) (x2 : Int32) (x3 : Int32) (x4 : Int32) (x5 : Int32) (I : Nat → Nat → Int32) (L : Nat → Nat → Int64) : Prop := V mr_X9_dividesBy (0, 0) RET 46 [(0, .ref a0), (1, .int x1), (2, .int x2), (3, .int x3), (4, .int x4), (5, .int x5)] [] (S, I, L) (0, 0)
def hd_X9_dividesBy_172 (S : List mjD) (RET : Option Value → mjH → Prop) (a0 : Nat) (x2 : Int32) (x5 : Int32) (x6 : Int32) (I : Nat → Nat → Int32) (L : Nat → Nat → Int64) : Prop := V mr_X9_dividesBy (0, 0) RET 172 [(0, .ref a0), (2, .int x2), (5, .int x5), (6, .int x6)] [] (S, I, L) (0, 0)
set_option maxRecDepth 100000 in
set_option maxHeartbeats 4000000 in
theorem it_X9_dividesBy_13 {S : List mjD} {RET : Option Value → mjH → Prop} {a0 : Nat} (h0 : is_Model S a0) {x1 : Int32} {x2 : Int32} {x3 : Int32} {x4 : Int32} {x5 : Int32} {I : Nat → Nat → Int32} {L : Nat → Nat → Int64} (H0 : (((6 : Int32) ≤ x5 → ∀ y6 : Int32, y6 = (I a0 44) → hd_X9_dividesBy_46 S RET a0 x1 x2 x3 x4 y6 I L) ∧ (¬ (6 : Int32) ≤ x5 → (vp_in x5 6) ∧ (vp_in x5 6) ∧ ∀ y14 : Int32, y14 = x5 + 1 → hd_X9_dividesBy_13 S RET a0 x1 x2 x3 x4 y14 (mj_up I (a0 + 26) x5.toNatClampNeg (I (a0 + 25) x5.toNatClampNeg)) L))) : hd_X9_dividesBy_13 S RET a0 x1 x2 x3 x4 x5 I L := by
  unfold hd_X9_dividesBy_13
  refine V.iload dX9_dividesBy_13 rfl ?_
  refine V.bipush (v := (6)) dX9_dividesBy_15 (by decide) ?_
  refine V.icmp_ge (tgt := 40) dX9_dividesBy_17 (by decide) (fun c4 => ?_) (fun c4 => ?_)
  · have H5 := H0.1 c4
    refine V.aload_n dX9_dividesBy_40 rfl rfl ?_
    refine V.getf (v := .int (I a0 44)) dX9_dividesBy_41 fl_X9_363 h0.1 (by decide) rfl ?_
    refine V.topi (fun y6 e7 => ?_)
    have H8 := H5 y6 e7
    refine V.istore (lo' := [(5, .int y6), (0, .ref a0), (1, .int x1), (2, .int x2), (3, .int x3), (4, .int x4)]) dX9_dividesBy_44 (by decide) rfl ?_
    exact V.los [1, 2, 3, 4, 5, 0] rfl H8
  · have H9 := H0.2 c4
    refine V.aload_n dX9_dividesBy_20 rfl rfl ?_
    refine V.getf (v := .ref (a0 + 26)) dX9_dividesBy_21 fl_X9_87 h0.1 (by decide) rfl ?_
    refine V.iload dX9_dividesBy_24 rfl ?_
    refine V.aload_n dX9_dividesBy_26 rfl rfl ?_
    refine V.getf (v := .ref (a0 + 25)) dX9_dividesBy_27 fl_X9_84 h0.1 (by decide) rfl ?_
    refine V.iload dX9_dividesBy_30 rfl ?_
    obtain ⟨o10, H11⟩ := H9
    refine V.iald dX9_dividesBy_32 h0.2.2.2.2.2.2.2.2.2.2.2.2.2.2.2.2.2.2.2.2.2.2.2.2.2.1 o10 ?_
    obtain ⟨o12, H13⟩ := H11
    refine V.iast dX9_dividesBy_33 h0.2.2.2.2.2.2.2.2.2.2.2.2.2.2.2.2.2.2.2.2.2.2.2.2.2.2.1 o12 ?_
    obtain ⟨y14, e15⟩ : ∃ y : Int32, y = x5 + 1 := ⟨_, rfl⟩
    have H16 := H13 y14 e15
    refine V.iinc (v := y14) (lo' := [(5, .int y14), (0, .ref a0), (1, .int x1), (2, .int x2), (3, .int x3), (4, .int x4)]) dX9_dividesBy_34 rfl (by rw [e15]; rfl) (by decide) rfl ?_
    refine V.goto (tgt := 13) dX9_dividesBy_37 (by decide) ?_
    exact V.los [1, 2, 3, 4, 5, 0] rfl H16
set_option maxRecDepth 100000 in
set_option maxHeartbeats 4000000 in
theorem it_X9_dividesBy_46 {S : List mjD} {RET : Option Value → mjH → Prop} {a0 : Nat} (h0 : is_Model S a0) {x1 : Int32} {x2 : Int32} {x3 : Int32} {x4 : Int32} {x5 : Int32} {I : Nat → Nat → Int32} {L : Nat → Nat → Int64} (H0 : ((x5 < x2 → ((¬ (I (a0 + 26) (0 : Int32).toNatClampNeg) = 0 → hd_X9_dividesBy_172 S RET a0 x2 (0 : Int32) (0 : Int32) I L) ∧ ((I (a0 + 26) (0 : Int32).toNatClampNeg) = 0 → ((x2 = (1 : Int32) → hd_X9_dividesBy_172 S RET a0 x2 (1 : Int32) (0 : Int32) I L) ∧ (¬ x2 = (1 : Int32) → ((¬ (I (a0 + 26) (1 : Int32).toNatClampNeg) = 0 → hd_X9_dividesBy_172 S RET a0 x2 (0 : Int32) (0 : Int32) I L) ∧ ((I (a0 + 26) (1 : Int32).toNatClampNeg) = 0 → hd_X9_dividesBy_172 S RET a0 x2 (1 : Int32) (0 : Int32) I L))))))) ∧ (¬ x5 < x2 → (vp_in x5 6) ∧ ∀ y31 : Int32, y31 = (I (a0 + 26) x5.toNatClampNeg) → (vp_in (x5 - (1 : Int32)) 6) ∧ ((¬ x2 = (1 : Int32) → ∃ r38 I39 L40, CTi mr_X9_rest [.long (((I (a0 + 26) (x5 - (1 : Int32)).toNatClampNeg) - (y31 * x3)).toInt64), .int x1] S I L r38 I39 L40 ∧ (vp_in (x5 - (1 : Int32)) 6) ∧ ((¬ x2 = (2 : Int32) → ∀ y47 : Int32, y47 = x5 + (-1) → hd_X9_dividesBy_46 S RET a0 x1 x2 x3 x4 y47 (mj_up I39 (a0 + 26) (x5 - (1 : Int32)).toNatClampNeg r38) L40) ∧ (x2 = (2 : Int32) → (vp_in (x5 - (2 : Int32)) 6) ∧ ∃ r53 I54 L55, CTi mr_X9_rest [.long ((((mj_up I39 (a0 + 26) (x5 - (1 : Int32)).toNatClampNeg r38) (a0 + 26) (x5 - (2 : Int32)).toNatClampNeg) - (y31 * x4)).toInt64), .int x1] S (mj_up I39 (a0 + 26) (x5 - (1 : Int32)).toNatClampNeg r38) L40 r53 I54 L55 ∧ (vp_in (x5 - (2 : Int32)) 6) ∧ ∀ y60 : Int32, y60 = x5 + (-1) → hd_X9_dividesBy_46 S RET a0 x1 x2 x3 x4 y60 (mj_up I54 (a0 + 26) (x5 - (2 : Int32)).toNatClampNeg r53) L55))) ∧ (x2 = (1 : Int32) → ∃ r64 I65 L66, CTi mr_X9_rest [.long (((I (a0 + 26) (x5 - (1 : Int32)).toNatClampNeg) - (y31 * x4)).toInt64), .int x1] S I L r64 I65 L66 ∧ (vp_in (x5 - (1 : Int32)) 6) ∧ ((¬ x2 = (2 : Int32) → ∀ y73 : Int32, y73 = x5 + (-1) → hd_X9_dividesBy_46 S RET a0 x1 x2 x3 x4 y73 (mj_up I65 (a0 + 26) (x5 - (1 : Int32)).toNatClampNeg r64) L66) ∧ (x2 = (2 : Int32) → (vp_in (x5 - (2 : Int32)) 6) ∧ ∃ r79 I80 L81, CTi mr_X9_rest [.long ((((mj_up I65 (a0 + 26) (x5 - (1 : Int32)).toNatClampNeg r64) (a0 + 26) (x5 - (2 : Int32)).toNatClampNeg) - (y31 * x4)).toInt64), .int x1] S (mj_up I65 (a0 + 26) (x5 - (1 : Int32)).toNatClampNeg r64) L66 r79 I80 L81 ∧ (vp_in (x5 - (2 : Int32)) 6) ∧ ∀ y86 : Int32, y86 = x5 + (-1) → hd_X9_dividesBy_46 S RET a0 x1 x2 x3 x4 y86 (mj_up I80 (a0 + 26) (x5 - (2 : Int32)).toNatClampNeg r79) L81))))))) : hd_X9_dividesBy_46 S RET a0 x1 x2 x3 x4 x5 I L := by
  unfold hd_X9_dividesBy_46
  refine V.iload dX9_dividesBy_46 rfl ?_
  refine V.iload_n dX9_dividesBy_48 rfl rfl ?_
  refine V.icmp_lt (tgt := 139) dX9_dividesBy_49 (by decide) (fun c17 => ?_) (fun c17 => ?_)
  · have H18 := H0.1 c17
    refine V.aload_n dX9_dividesBy_139 rfl rfl ?_
    refine V.getf (v := .ref (a0 + 26)) dX9_dividesBy_140 fl_X9_87 h0.1 (by decide) rfl ?_
    refine V.iconst (v := (0)) dX9_dividesBy_143 (by decide) ?_
    refine V.iald dX9_dividesBy_144 h0.2.2.2.2.2.2.2.2.2.2.2.2.2.2.2.2.2.2.2.2.2.2.2.2.2.2.1 (mj_lit (by decide)) ?_
    refine V.if_ne (tgt := 166) dX9_dividesBy_145 (by decide) (fun c19 => ?_) (fun c19 => ?_)
    · have H20 := H18.1 c19
      refine V.iconst (v := (0)) dX9_dividesBy_166 (by decide) ?_
      refine V.istore (lo' := [(5, .int (0 : Int32)), (0, .ref a0), (1, .int x1), (2, .int x2), (3, .int x3), (4, .int x4)]) dX9_dividesBy_167 (by decide) rfl ?_
      refine V.iconst (v := (0)) dX9_dividesBy_169 (by decide) ?_
      refine V.istore (lo' := [(6, .int (0 : Int32)), (5, .int (0 : Int32)), (0, .ref a0), (1, .int x1), (2, .int x2), (3, .int x3), (4, .int x4)]) dX9_dividesBy_170 (by decide) rfl ?_
      exact V.los [2, 4, 1, 0] rfl H20
    · have H21 := H18.2 c19
      refine V.iload_n dX9_dividesBy_148 rfl rfl ?_
      refine V.iconst (v := (1)) dX9_dividesBy_149 (by decide) ?_
      refine V.icmp_eq (tgt := 162) dX9_dividesBy_150 (by decide) (fun c22 => ?_) (fun c22 => ?_)
      · have H23 := H21.1 c22
        refine V.iconst (v := (1)) dX9_dividesBy_162 (by decide) ?_
        refine V.goto (tgt := 167) dX9_dividesBy_163 (by decide) ?_
        refine V.istore (lo' := [(5, .int (1 : Int32)), (0, .ref a0), (1, .int x1), (2, .int x2), (3, .int x3), (4, .int x4)]) dX9_dividesBy_167 (by decide) rfl ?_
        refine V.iconst (v := (0)) dX9_dividesBy_169 (by decide) ?_
        refine V.istore (lo' := [(6, .int (0 : Int32)), (5, .int (1 : Int32)), (0, .ref a0), (1, .int x1), (2, .int x2), (3, .int x3), (4, .int x4)]) dX9_dividesBy_170 (by decide) rfl ?_
        exact V.los [2, 4, 1, 0] rfl H23
      · have H24 := H21.2 c22
        refine V.aload_n dX9_dividesBy_153 rfl rfl ?_
        refine V.getf (v := .ref (a0 + 26)) dX9_dividesBy_154 fl_X9_87 h0.1 (by decide) rfl ?_
        refine V.iconst (v := (1)) dX9_dividesBy_157 (by decide) ?_
        refine V.iald dX9_dividesBy_158 h0.2.2.2.2.2.2.2.2.2.2.2.2.2.2.2.2.2.2.2.2.2.2.2.2.2.2.1 (mj_lit (by decide)) ?_
        refine V.if_ne (tgt := 166) dX9_dividesBy_159 (by decide) (fun c25 => ?_) (fun c25 => ?_)
        · have H26 := H24.1 c25
          refine V.iconst (v := (0)) dX9_dividesBy_166 (by decide) ?_
          refine V.istore (lo' := [(5, .int (0 : Int32)), (0, .ref a0), (1, .int x1), (2, .int x2), (3, .int x3), (4, .int x4)]) dX9_dividesBy_167 (by decide) rfl ?_
          refine V.iconst (v := (0)) dX9_dividesBy_169 (by decide) ?_
          refine V.istore (lo' := [(6, .int (0 : Int32)), (5, .int (0 : Int32)), (0, .ref a0), (1, .int x1), (2, .int x2), (3, .int x3), (4, .int x4)]) dX9_dividesBy_170 (by decide) rfl ?_
          exact V.los [2, 4, 1, 0] rfl H26
        · have H27 := H24.2 c25
          refine V.iconst (v := (1)) dX9_dividesBy_162 (by decide) ?_
          refine V.goto (tgt := 167) dX9_dividesBy_163 (by decide) ?_
          refine V.istore (lo' := [(5, .int (1 : Int32)), (0, .ref a0), (1, .int x1), (2, .int x2), (3, .int x3), (4, .int x4)]) dX9_dividesBy_167 (by decide) rfl ?_
          refine V.iconst (v := (0)) dX9_dividesBy_169 (by decide) ?_
          refine V.istore (lo' := [(6, .int (0 : Int32)), (5, .int (1 : Int32)), (0, .ref a0), (1, .int x1), (2, .int x2), (3, .int x3), (4, .int x4)]) dX9_dividesBy_170 (by decide) rfl ?_
          exact V.los [2, 4, 1, 0] rfl H27
  · have H28 := H0.2 c17
    refine V.aload_n dX9_dividesBy_52 rfl rfl ?_
    refine V.getf (v := .ref (a0 + 26)) dX9_dividesBy_53 fl_X9_87 h0.1 (by decide) rfl ?_
    refine V.iload dX9_dividesBy_56 rfl ?_
    obtain ⟨o29, H30⟩ := H28
    refine V.iald dX9_dividesBy_58 h0.2.2.2.2.2.2.2.2.2.2.2.2.2.2.2.2.2.2.2.2.2.2.2.2.2.2.1 o29 ?_
    refine V.topi (fun y31 e32 => ?_)
    have H33 := H30 y31 e32
    refine V.istore (lo' := [(6, .int y31), (0, .ref a0), (1, .int x1), (2, .int x2), (3, .int x3), (4, .int x4), (5, .int x5)]) dX9_dividesBy_59 (by decide) rfl ?_
    refine V.aload_n dX9_dividesBy_61 rfl rfl ?_
    refine V.getf (v := .ref (a0 + 26)) dX9_dividesBy_62 fl_X9_87 h0.1 (by decide) rfl ?_
    refine V.iload dX9_dividesBy_65 rfl ?_
    refine V.iconst (v := (1)) dX9_dividesBy_67 (by decide) ?_
    refine V.isub dX9_dividesBy_68 ?_
    refine V.aload_n dX9_dividesBy_69 rfl rfl ?_
    refine V.getf (v := .ref (a0 + 26)) dX9_dividesBy_70 fl_X9_87 h0.1 (by decide) rfl ?_
    refine V.iload dX9_dividesBy_73 rfl ?_
    refine V.iconst (v := (1)) dX9_dividesBy_75 (by decide) ?_
    refine V.isub dX9_dividesBy_76 ?_
    obtain ⟨o34, H35⟩ := H33
    refine V.iald dX9_dividesBy_77 h0.2.2.2.2.2.2.2.2.2.2.2.2.2.2.2.2.2.2.2.2.2.2.2.2.2.2.1 o34 ?_
    refine V.iload dX9_dividesBy_78 rfl ?_
    refine V.iload_n dX9_dividesBy_80 rfl rfl ?_
    refine V.iconst (v := (1)) dX9_dividesBy_81 (by decide) ?_
    refine V.icmp_ne (tgt := 90) dX9_dividesBy_82 (by decide) (fun c36 => ?_) (fun c36 => ?_)
    · have H37 := H35.1 c36
      refine V.iload_n dX9_dividesBy_90 rfl rfl ?_
      refine V.imul dX9_dividesBy_91 ?_
      refine V.isub dX9_dividesBy_92 ?_
      refine V.i2l dX9_dividesBy_93 ?_
      refine V.iload_n dX9_dividesBy_94 rfl rfl ?_
      obtain ⟨r38, I39, L40, t41, H42⟩ := H37
      refine V.cSi (N := mr_X9_rest) (as := [.long (((I (a0 + 26) (x5 - (1 : Int32)).toNatClampNeg) - (y31 * x3)).toInt64), .int x1]) dX9_dividesBy_95 ml_X9_366 ok_X9_rest okS_X9_rest ⟨Nat.le_of_ble_eq_true rfl, Nat.le_of_ble_eq_true rfl⟩ rfl rfl (Nat.le_of_ble_eq_true rfl) t41 ?_
      obtain ⟨o43, H44⟩ := H42
      refine V.iast dX9_dividesBy_98 h0.2.2.2.2.2.2.2.2.2.2.2.2.2.2.2.2.2.2.2.2.2.2.2.2.2.2.1 o43 ?_
      refine V.iload_n dX9_dividesBy_99 rfl rfl ?_
      refine V.iconst (v := (2)) dX9_dividesBy_100 (by decide) ?_
      refine V.icmp_ne (tgt := 133) dX9_dividesBy_101 (by decide) (fun c45 => ?_) (fun c45 => ?_)
      · have H46 := H44.1 c45
        obtain ⟨y47, e48⟩ : ∃ y : Int32, y = x5 + (-1) := ⟨_, rfl⟩
        have H49 := H46 y47 e48
        refine V.iinc (v := y47) (lo' := [(5, .int y47), (6, .int y31), (0, .ref a0), (1, .int x1), (2, .int x2), (3, .int x3), (4, .int x4)]) dX9_dividesBy_133 rfl (by rw [e48]; rfl) (by decide) rfl ?_
        refine V.goto (tgt := 46) dX9_dividesBy_136 (by decide) ?_
        exact V.los [2, 3, 4, 5, 6, 0] rfl H49
      · have H50 := H44.2 c45
        refine V.aload_n dX9_dividesBy_104 rfl rfl ?_
        refine V.getf (v := .ref (a0 + 26)) dX9_dividesBy_105 fl_X9_87 h0.1 (by decide) rfl ?_
        refine V.iload dX9_dividesBy_108 rfl ?_
        refine V.iconst (v := (2)) dX9_dividesBy_110 (by decide) ?_
        refine V.isub dX9_dividesBy_111 ?_
        refine V.aload_n dX9_dividesBy_112 rfl rfl ?_
        refine V.getf (v := .ref (a0 + 26)) dX9_dividesBy_113 fl_X9_87 h0.1 (by decide) rfl ?_
        refine V.iload dX9_dividesBy_116 rfl ?_
        refine V.iconst (v := (2)) dX9_dividesBy_118 (by decide) ?_
        refine V.isub dX9_dividesBy_119 ?_
        obtain ⟨o51, H52⟩ := H50
        refine V.iald dX9_dividesBy_120 h0.2.2.2.2.2.2.2.2.2.2.2.2.2.2.2.2.2.2.2.2.2.2.2.2.2.2.1 o51 ?_
        refine V.iload dX9_dividesBy_121 rfl ?_
        refine V.iload dX9_dividesBy_123 rfl ?_
        refine V.imul dX9_dividesBy_125 ?_
        refine V.isub dX9_dividesBy_126 ?_
        refine V.i2l dX9_dividesBy_127 ?_
        refine V.iload_n dX9_dividesBy_128 rfl rfl ?_
        obtain ⟨r53, I54, L55, t56, H57⟩ := H52
        refine V.cSi (N := mr_X9_rest) (as := [.long ((((mj_up I39 (a0 + 26) (x5 - (1 : Int32)).toNatClampNeg r38) (a0 + 26) (x5 - (2 : Int32)).toNatClampNeg) - (y31 * x4)).toInt64), .int x1]) dX9_dividesBy_129 ml_X9_366 ok_X9_rest okS_X9_rest ⟨Nat.le_of_ble_eq_true rfl, Nat.le_of_ble_eq_true rfl⟩ rfl rfl (Nat.le_of_ble_eq_true rfl) t56 ?_
        obtain ⟨o58, H59⟩ := H57
        refine V.iast dX9_dividesBy_132 h0.2.2.2.2.2.2.2.2.2.2.2.2.2.2.2.2.2.2.2.2.2.2.2.2.2.2.1 o58 ?_
        obtain ⟨y60, e61⟩ : ∃ y : Int32, y = x5 + (-1) := ⟨_, rfl⟩
        have H62 := H59 y60 e61
        refine V.iinc (v := y60) (lo' := [(5, .int y60), (6, .int y31), (0, .ref a0), (1, .int x1), (2, .int x2), (3, .int x3), (4, .int x4)]) dX9_dividesBy_133 rfl (by rw [e61]; rfl) (by decide) rfl ?_
        refine V.goto (tgt := 46) dX9_dividesBy_136 (by decide) ?_
        exact V.los [2, 3, 4, 5, 6, 0] rfl H62
    · have H63 := H35.2 c36
      refine V.iload dX9_dividesBy_85 rfl ?_
      refine V.goto (tgt := 91) dX9_dividesBy_87 (by decide) ?_
      refine V.imul dX9_dividesBy_91 ?_
      refine V.isub dX9_dividesBy_92 ?_
      refine V.i2l dX9_dividesBy_93 ?_
      refine V.iload_n dX9_dividesBy_94 rfl rfl ?_
      obtain ⟨r64, I65, L66, t67, H68⟩ := H63
      refine V.cSi (N := mr_X9_rest) (as := [.long (((I (a0 + 26) (x5 - (1 : Int32)).toNatClampNeg) - (y31 * x4)).toInt64), .int x1]) dX9_dividesBy_95 ml_X9_366 ok_X9_rest okS_X9_rest ⟨Nat.le_of_ble_eq_true rfl, Nat.le_of_ble_eq_true rfl⟩ rfl rfl (Nat.le_of_ble_eq_true rfl) t67 ?_
      obtain ⟨o69, H70⟩ := H68
      refine V.iast dX9_dividesBy_98 h0.2.2.2.2.2.2.2.2.2.2.2.2.2.2.2.2.2.2.2.2.2.2.2.2.2.2.1 o69 ?_
      refine V.iload_n dX9_dividesBy_99 rfl rfl ?_
      refine V.iconst (v := (2)) dX9_dividesBy_100 (by decide) ?_
      refine V.icmp_ne (tgt := 133) dX9_dividesBy_101 (by decide) (fun c71 => ?_) (fun c71 => ?_)
      · have H72 := H70.1 c71
        obtain ⟨y73, e74⟩ : ∃ y : Int32, y = x5 + (-1) := ⟨_, rfl⟩
        have H75 := H72 y73 e74
        refine V.iinc (v := y73) (lo' := [(5, .int y73), (6, .int y31), (0, .ref a0), (1, .int x1), (2, .int x2), (3, .int x3), (4, .int x4)]) dX9_dividesBy_133 rfl (by rw [e74]; rfl) (by decide) rfl ?_
        refine V.goto (tgt := 46) dX9_dividesBy_136 (by decide) ?_
        exact V.los [2, 3, 4, 5, 6, 0] rfl H75
      · have H76 := H70.2 c71
        refine V.aload_n dX9_dividesBy_104 rfl rfl ?_
        refine V.getf (v := .ref (a0 + 26)) dX9_dividesBy_105 fl_X9_87 h0.1 (by decide) rfl ?_
        refine V.iload dX9_dividesBy_108 rfl ?_
        refine V.iconst (v := (2)) dX9_dividesBy_110 (by decide) ?_
        refine V.isub dX9_dividesBy_111 ?_
        refine V.aload_n dX9_dividesBy_112 rfl rfl ?_
        refine V.getf (v := .ref (a0 + 26)) dX9_dividesBy_113 fl_X9_87 h0.1 (by decide) rfl ?_
        refine V.iload dX9_dividesBy_116 rfl ?_
        refine V.iconst (v := (2)) dX9_dividesBy_118 (by decide) ?_
        refine V.isub dX9_dividesBy_119 ?_
        obtain ⟨o77, H78⟩ := H76
        refine V.iald dX9_dividesBy_120 h0.2.2.2.2.2.2.2.2.2.2.2.2.2.2.2.2.2.2.2.2.2.2.2.2.2.2.1 o77 ?_
        refine V.iload dX9_dividesBy_121 rfl ?_
        refine V.iload dX9_dividesBy_123 rfl ?_
        refine V.imul dX9_dividesBy_125 ?_
        refine V.isub dX9_dividesBy_126 ?_
        refine V.i2l dX9_dividesBy_127 ?_
        refine V.iload_n dX9_dividesBy_128 rfl rfl ?_
        obtain ⟨r79, I80, L81, t82, H83⟩ := H78
        refine V.cSi (N := mr_X9_rest) (as := [.long ((((mj_up I65 (a0 + 26) (x5 - (1 : Int32)).toNatClampNeg r64) (a0 + 26) (x5 - (2 : Int32)).toNatClampNeg) - (y31 * x4)).toInt64), .int x1]) dX9_dividesBy_129 ml_X9_366 ok_X9_rest okS_X9_rest ⟨Nat.le_of_ble_eq_true rfl, Nat.le_of_ble_eq_true rfl⟩ rfl rfl (Nat.le_of_ble_eq_true rfl) t82 ?_
        obtain ⟨o84, H85⟩ := H83
        refine V.iast dX9_dividesBy_132 h0.2.2.2.2.2.2.2.2.2.2.2.2.2.2.2.2.2.2.2.2.2.2.2.2.2.2.1 o84 ?_
        obtain ⟨y86, e87⟩ : ∃ y : Int32, y = x5 + (-1) := ⟨_, rfl⟩
        have H88 := H85 y86 e87
        refine V.iinc (v := y86) (lo' := [(5, .int y86), (6, .int y31), (0, .ref a0), (1, .int x1), (2, .int x2), (3, .int x3), (4, .int x4)]) dX9_dividesBy_133 rfl (by rw [e87]; rfl) (by decide) rfl ?_
        refine V.goto (tgt := 46) dX9_dividesBy_136 (by decide) ?_
        exact V.los [2, 3, 4, 5, 6, 0] rfl H88
set_option maxRecDepth 100000 in
set_option maxHeartbeats 4000000 in
theorem it_X9_dividesBy_172 {S : List mjD} {RET : Option Value → mjH → Prop} {a0 : Nat} (h0 : is_Model S a0) {x2 : Int32} {x5 : Int32} {x6 : Int32} {I : Nat → Nat → Int32} {L : Nat → Nat → Int64} (H0 : (((6 : Int32) ≤ x6 → ((x5 = 0 → (x5 = 0 ∨ x5 = 1) ∧ RET (some (.int x5)) (S, mj_up I a0 44 ((I a0 44) - (0 : Int32)), L)) ∧ (¬ x5 = 0 → (x5 = 0 ∨ x5 = 1) ∧ RET (some (.int x5)) (S, mj_up I a0 44 ((I a0 44) - x2), L)))) ∧ (¬ (6 : Int32) ≤ x6 → ((x5 = 0 → ((x5 = 0 → (x5 = 0 ∨ x5 = 1) ∧ RET (some (.int x5)) (S, mj_up I a0 44 ((I a0 44) - (0 : Int32)), L)) ∧ (¬ x5 = 0 → (x5 = 0 ∨ x5 = 1) ∧ RET (some (.int x5)) (S, mj_up I a0 44 ((I a0 44) - x2), L)))) ∧ (¬ x5 = 0 → (((6 : Int32) ≤ (x6 + x2) → (vp_in x6 6) ∧ ∀ y113 : Int32, y113 = x6 + 1 → hd_X9_dividesBy_172 S RET a0 x2 x5 y113 (mj_up I (a0 + 25) x6.toNatClampNeg (0 : Int32)) L) ∧ (¬ (6 : Int32) ≤ (x6 + x2) → (vp_in (x6 + x2) 6) ∧ (vp_in x6 6) ∧ ∀ y121 : Int32, y121 = x6 + 1 → hd_X9_dividesBy_172 S RET a0 x2 x5 y121 (mj_up I (a0 + 25) x6.toNatClampNeg (I (a0 + 26) (x6 + x2).toNatClampNeg)) L))))))) : hd_X9_dividesBy_172 S RET a0 x2 x5 x6 I L := by
  unfold hd_X9_dividesBy_172
  refine V.iload dX9_dividesBy_172 rfl ?_
  refine V.bipush (v := (6)) dX9_dividesBy_174 (by decide) ?_
  refine V.icmp_ge (tgt := 219) dX9_dividesBy_176 (by decide) (fun c89 => ?_) (fun c89 => ?_)
  · have H90 := H0.1 c89
    refine V.aload_n dX9_dividesBy_219 rfl rfl ?_
    refine V.dup dX9_dividesBy_220 rfl ?_
    refine V.getf (v := .int (I a0 44)) dX9_dividesBy_221 fl_X9_363 h0.1 (by decide) rfl ?_
    refine V.iload dX9_dividesBy_224 rfl ?_
    refine V.if_eq (tgt := 233) dX9_dividesBy_226 (by decide) (fun c91 => ?_) (fun c91 => ?_)
    · have H92 := H90.1 c91
      refine V.iconst (v := (0)) dX9_dividesBy_233 (by decide) ?_
      refine V.isub dX9_dividesBy_234 ?_
      refine V.puti dX9_dividesBy_235 fl_X9_363 fp_X9_363 (Or.inl rfl) h0.1 (by decide) rfl rfl ?_
      refine V.iload dX9_dividesBy_238 rfl ?_
      obtain ⟨o93, H94⟩ := H92
      exact V.ret (v := some (.int x5)) rfl (Or.inl ⟨_, rfl, dX9_dividesBy_240, _, rfl, (mj_zn o93)⟩) ⟨Nat.le_refl _, Nat.le_refl _⟩ H94
    · have H95 := H90.2 c91
      refine V.iload_n dX9_dividesBy_229 rfl rfl ?_
      refine V.goto (tgt := 234) dX9_dividesBy_230 (by decide) ?_
      refine V.isub dX9_dividesBy_234 ?_
      refine V.puti dX9_dividesBy_235 fl_X9_363 fp_X9_363 (Or.inl rfl) h0.1 (by decide) rfl rfl ?_
      refine V.iload dX9_dividesBy_238 rfl ?_
      obtain ⟨o96, H97⟩ := H95
      exact V.ret (v := some (.int x5)) rfl (Or.inl ⟨_, rfl, dX9_dividesBy_240, _, rfl, (mj_zn o96)⟩) ⟨Nat.le_refl _, Nat.le_refl _⟩ H97
  · have H98 := H0.2 c89
    refine V.iload dX9_dividesBy_179 rfl ?_
    refine V.if_eq (tgt := 219) dX9_dividesBy_181 (by decide) (fun c99 => ?_) (fun c99 => ?_)
    · have H100 := H98.1 c99
      refine V.aload_n dX9_dividesBy_219 rfl rfl ?_
      refine V.dup dX9_dividesBy_220 rfl ?_
      refine V.getf (v := .int (I a0 44)) dX9_dividesBy_221 fl_X9_363 h0.1 (by decide) rfl ?_
      refine V.iload dX9_dividesBy_224 rfl ?_
      refine V.if_eq (tgt := 233) dX9_dividesBy_226 (by decide) (fun c101 => ?_) (fun c101 => ?_)
      · have H102 := H100.1 c101
        refine V.iconst (v := (0)) dX9_dividesBy_233 (by decide) ?_
        refine V.isub dX9_dividesBy_234 ?_
        refine V.puti dX9_dividesBy_235 fl_X9_363 fp_X9_363 (Or.inl rfl) h0.1 (by decide) rfl rfl ?_
        refine V.iload dX9_dividesBy_238 rfl ?_
        obtain ⟨o103, H104⟩ := H102
        exact V.ret (v := some (.int x5)) rfl (Or.inl ⟨_, rfl, dX9_dividesBy_240, _, rfl, (mj_zn o103)⟩) ⟨Nat.le_refl _, Nat.le_refl _⟩ H104
      · have H105 := H100.2 c101
        refine V.iload_n dX9_dividesBy_229 rfl rfl ?_
        refine V.goto (tgt := 234) dX9_dividesBy_230 (by decide) ?_
        refine V.isub dX9_dividesBy_234 ?_
        refine V.puti dX9_dividesBy_235 fl_X9_363 fp_X9_363 (Or.inl rfl) h0.1 (by decide) rfl rfl ?_
        refine V.iload dX9_dividesBy_238 rfl ?_
        obtain ⟨o106, H107⟩ := H105
        exact V.ret (v := some (.int x5)) rfl (Or.inl ⟨_, rfl, dX9_dividesBy_240, _, rfl, (mj_zn o106)⟩) ⟨Nat.le_refl _, Nat.le_refl _⟩ H107
    · have H108 := H98.2 c99
      refine V.aload_n dX9_dividesBy_184 rfl rfl ?_
      refine V.getf (v := .ref (a0 + 25)) dX9_dividesBy_185 fl_X9_84 h0.1 (by decide) rfl ?_
      refine V.iload dX9_dividesBy_188 rfl ?_
      refine V.iload dX9_dividesBy_190 rfl ?_
      refine V.iload_n dX9_dividesBy_192 rfl rfl ?_
      refine V.iadd dX9_dividesBy_193 ?_
      refine V.bipush (v := (6)) dX9_dividesBy_194 (by decide) ?_
      refine V.icmp_ge (tgt := 211) dX9_dividesBy_196 (by decide) (fun c109 => ?_) (fun c109 => ?_)
      · have H110 := H108.1 c109
        refine V.iconst (v := (0)) dX9_dividesBy_211 (by decide) ?_
        obtain ⟨o111, H112⟩ := H110
        refine V.iast dX9_dividesBy_212 h0.2.2.2.2.2.2.2.2.2.2.2.2.2.2.2.2.2.2.2.2.2.2.2.2.2.1 o111 ?_
        obtain ⟨y113, e114⟩ : ∃ y : Int32, y = x6 + 1 := ⟨_, rfl⟩
        have H115 := H112 y113 e114
        refine V.iinc (v := y113) (lo' := [(6, .int y113), (0, .ref a0), (2, .int x2), (5, .int x5)]) dX9_dividesBy_213 rfl (by rw [e114]; rfl) (by decide) rfl ?_
        refine V.goto (tgt := 172) dX9_dividesBy_216 (by decide) ?_
        exact V.los [1, 2, 3, 0] rfl H115
      · have H116 := H108.2 c109
        refine V.aload_n dX9_dividesBy_199 rfl rfl ?_
        refine V.getf (v := .ref (a0 + 26)) dX9_dividesBy_200 fl_X9_87 h0.1 (by decide) rfl ?_
        refine V.iload dX9_dividesBy_203 rfl ?_
        refine V.iload_n dX9_dividesBy_205 rfl rfl ?_
        refine V.iadd dX9_dividesBy_206 ?_
        obtain ⟨o117, H118⟩ := H116
        refine V.iald dX9_dividesBy_207 h0.2.2.2.2.2.2.2.2.2.2.2.2.2.2.2.2.2.2.2.2.2.2.2.2.2.2.1 o117 ?_
        refine V.goto (tgt := 212) dX9_dividesBy_208 (by decide) ?_
        obtain ⟨o119, H120⟩ := H118
        refine V.iast dX9_dividesBy_212 h0.2.2.2.2.2.2.2.2.2.2.2.2.2.2.2.2.2.2.2.2.2.2.2.2.2.1 o119 ?_
        obtain ⟨y121, e122⟩ : ∃ y : Int32, y = x6 + 1 := ⟨_, rfl⟩
        have H123 := H120 y121 e122
        refine V.iinc (v := y121) (lo' := [(6, .int y121), (0, .ref a0), (2, .int x2), (5, .int x5)]) dX9_dividesBy_213 rfl (by rw [e122]; rfl) (by decide) rfl ?_
        refine V.goto (tgt := 172) dX9_dividesBy_216 (by decide) ?_
        exact V.los [1, 2, 3, 0] rfl H123
set_option maxRecDepth 100000 in
set_option maxHeartbeats 4000000 in
theorem wp_X9_dividesBy {S : List mjD} {RET : Option Value → mjH → Prop} {m : Nat} (hm : is_Model S m) {a : Int32} {b : Int32} {c : Int32} {e : Int32} {I : Nat → Nat → Int32} {L : Nat → Nat → Int64} (H0 : ((b ≤ (I m 44) → hd_X9_dividesBy_13 S RET m a b c e (0 : Int32) I L) ∧ (¬ b ≤ (I m 44) → RET (some (.int (0 : Int32))) (S, I, L)))) : CT mr_X9_dividesBy (0, 0) [.ref m, .int a, .int b, .int c, .int e] (S, I, L) RET := by
  refine CT.of (lo := [(0, .ref m), (1, .int a), (2, .int b), (3, .int c), (4, .int e)]) (by decide) (fun _ _ => Nat.le_of_ble_eq_true rfl) (fun _ _ => rfl) rfl ?_
  refine V.aload_n dX9_dividesBy_0 rfl rfl ?_
  refine V.getf (v := .int (I m 44)) dX9_dividesBy_1 fl_X9_363 hm.1 (by decide) rfl ?_
  refine V.iload_n dX9_dividesBy_4 rfl rfl ?_
  refine V.icmp_ge (tgt := 10) dX9_dividesBy_5 (by decide) (fun c1 => ?_) (fun c1 => ?_)
  · have H2 := H0.1 c1
    refine V.iconst (v := (0)) dX9_dividesBy_10 (by decide) ?_
    refine V.istore (lo' := [(5, .int (0 : Int32)), (0, .ref m), (1, .int a), (2, .int b), (3, .int c), (4, .int e)]) dX9_dividesBy_11 (by decide) rfl ?_
    exact V.los [1, 2, 3, 4, 5, 0] rfl H2
  · have H3 := H0.2 c1
    refine V.iconst (v := (0)) dX9_dividesBy_8 (by decide) ?_
    exact V.ret (v := some (.int (0 : Int32))) rfl (Or.inl ⟨_, rfl, dX9_dividesBy_9, _, rfl, (by decide)⟩) ⟨Nat.le_refl _, Nat.le_refl _⟩ H3
def hd_X9_image_33 (S : List mjD) (RET : Option Value → mjH → Prop) (a0 : Nat) (x1 : Int32) (I : Nat → Nat → Int32) (L : Nat → Nat → Int64) : Prop := V mr_X9_image (0, 0) RET 33 [(0, .ref a0), (1, .int x1)] [] (S, I, L) (0, 0)
def hd_X9_image_70 (S : List mjD) (RET : Option Value → mjH → Prop) (a0 : Nat) (x1 : Int32) (I : Nat → Nat → Int32) (L : Nat → Nat → Int64) : Prop := V mr_X9_image (0, 0) RET 70 [(0, .ref a0), (1, .int x1)] [] (S, I, L) (0, 0)
def hd_X9_image_96 (S : List mjD) (RET : Option Value → mjH → Prop) (a0 : Nat) (x1 : Int32) (I : Nat → Nat → Int32) (L : Nat → Nat → Int64) : Prop := V mr_X9_image (0, 0) RET 96 [(0, .ref a0), (1, .int x1)] [] (S, I, L) (0, 0)
set_option maxRecDepth 100000 in
set_option maxHeartbeats 4000000 in
theorem it_X9_image_33 {S : List mjD} {RET : Option Value → mjH → Prop} {a0 : Nat} (h0 : is_Model S a0) {x1 : Int32} {I : Nat → Nat → Int32} {L : Nat → Nat → Int64} (H0 : (((4 : Int32) ≤ x1 → hd_X9_image_70 S RET a0 (0 : Int32) I L) ∧ (¬ (4 : Int32) ≤ x1 → (vp_in x1 4) ∧ (vp_in x1 4) ∧ (vp_in x1 4) ∧ (vp_in x1 4) ∧ ∀ y15 : Int32, y15 = x1 + 1 → hd_X9_image_33 S RET a0 y15 (mj_up (mj_up I (a0 + 27) x1.toNatClampNeg (I (a0 + 1) x1.toNatClampNeg)) (a0 + 28) x1.toNatClampNeg ((mj_up I (a0 + 27) x1.toNatClampNeg (I (a0 + 1) x1.toNatClampNeg)) (a0 + 3) x1.toNatClampNeg)) L))) : hd_X9_image_33 S RET a0 x1 I L := by
  unfold hd_X9_image_33
  refine V.iload_n dX9_image_33 rfl rfl ?_
  refine V.iconst (v := (4)) dX9_image_34 (by decide) ?_
  refine V.icmp_ge (tgt := 68) dX9_image_35 (by decide) (fun c4 => ?_) (fun c4 => ?_)
  · have H5 := H0.1 c4
    refine V.iconst (v := (0)) dX9_image_68 (by decide) ?_
    refine V.istore_n (lo' := [(1, .int (0 : Int32)), (0, .ref a0)]) dX9_image_69 rfl (by decide) rfl ?_
    exact V.los [1, 0] rfl H5
  · have H6 := H0.2 c4
    refine V.aload_n dX9_image_38 rfl rfl ?_
    refine V.getf (v := .ref (a0 + 27)) dX9_image_39 fl_X9_90 h0.1 (by decide) rfl ?_
    refine V.iload_n dX9_image_42 rfl rfl ?_
    refine V.aload_n dX9_image_43 rfl rfl ?_
    refine V.getf (v := .ref (a0 + 1)) dX9_image_44 fl_X9_7 h0.1 (by decide) rfl ?_
    refine V.iload_n dX9_image_47 rfl rfl ?_
    obtain ⟨o7, H8⟩ := H6
    refine V.iald dX9_image_48 h0.2.1 o7 ?_
    obtain ⟨o9, H10⟩ := H8
    refine V.iast dX9_image_49 h0.2.2.2.2.2.2.2.2.2.2.2.2.2.2.2.2.2.2.2.2.2.2.2.2.2.2.2.1 o9 ?_
    refine V.aload_n dX9_image_50 rfl rfl ?_
    refine V.getf (v := .ref (a0 + 28)) dX9_image_51 fl_X9_93 h0.1 (by decide) rfl ?_
    refine V.iload_n dX9_image_54 rfl rfl ?_
    refine V.aload_n dX9_image_55 rfl rfl ?_
    refine V.getf (v := .ref (a0 + 3)) dX9_image_56 fl_X9_17 h0.1 (by decide) rfl ?_
    refine V.iload_n dX9_image_59 rfl rfl ?_
    obtain ⟨o11, H12⟩ := H10
    refine V.iald dX9_image_60 h0.2.2.2.1 o11 ?_
    obtain ⟨o13, H14⟩ := H12
    refine V.iast dX9_image_61 h0.2.2.2.2.2.2.2.2.2.2.2.2.2.2.2.2.2.2.2.2.2.2.2.2.2.2.2.2.1 o13 ?_
    obtain ⟨y15, e16⟩ : ∃ y : Int32, y = x1 + 1 := ⟨_, rfl⟩
    have H17 := H14 y15 e16
    refine V.iinc (v := y15) (lo' := [(1, .int y15), (0, .ref a0)]) dX9_image_62 rfl (by rw [e16]; rfl) (by decide) rfl ?_
    refine V.goto (tgt := 33) dX9_image_65 (by decide) ?_
    exact V.los [1, 0] rfl H17
set_option maxRecDepth 100000 in
set_option maxHeartbeats 4000000 in
theorem it_X9_image_70 {S : List mjD} {RET : Option Value → mjH → Prop} {a0 : Nat} (h0 : is_Model S a0) {x1 : Int32} {I : Nat → Nat → Int32} {L : Nat → Nat → Int64} (H0 : (((24 : Int32) ≤ x1 → hd_X9_image_96 S RET a0 (0 : Int32) I L) ∧ (¬ (24 : Int32) ≤ x1 → (vp_in x1 24) ∧ (vp_in x1 24) ∧ ∀ y25 : Int32, y25 = x1 + 1 → hd_X9_image_70 S RET a0 y25 I (mj_up L (a0 + 29) x1.toNatClampNeg (L (a0 + 2) x1.toNatClampNeg))))) : hd_X9_image_70 S RET a0 x1 I L := by
  unfold hd_X9_image_70
  refine V.iload_n dX9_image_70 rfl rfl ?_
  refine V.bipush (v := (24)) dX9_image_71 (by decide) ?_
  refine V.icmp_ge (tgt := 94) dX9_image_73 (by decide) (fun c18 => ?_) (fun c18 => ?_)
  · have H19 := H0.1 c18
    refine V.iconst (v := (0)) dX9_image_94 (by decide) ?_
    refine V.istore_n (lo' := [(1, .int (0 : Int32)), (0, .ref a0)]) dX9_image_95 rfl (by decide) rfl ?_
    exact V.los [1, 0] rfl H19
  · have H20 := H0.2 c18
    refine V.aload_n dX9_image_76 rfl rfl ?_
    refine V.getf (v := .ref (a0 + 29)) dX9_image_77 fl_X9_96 h0.1 (by decide) rfl ?_
    refine V.iload_n dX9_image_80 rfl rfl ?_
    refine V.aload_n dX9_image_81 rfl rfl ?_
    refine V.getf (v := .ref (a0 + 2)) dX9_image_82 fl_X9_13 h0.1 (by decide) rfl ?_
    refine V.iload_n dX9_image_85 rfl rfl ?_
    obtain ⟨o21, H22⟩ := H20
    refine V.lald dX9_image_86 h0.2.2.1 o21 ?_
    obtain ⟨o23, H24⟩ := H22
    refine V.last dX9_image_87 h0.2.2.2.2.2.2.2.2.2.2.2.2.2.2.2.2.2.2.2.2.2.2.2.2.2.2.2.2.2.1 o23 ?_
    obtain ⟨y25, e26⟩ : ∃ y : Int32, y = x1 + 1 := ⟨_, rfl⟩
    have H27 := H24 y25 e26
    refine V.iinc (v := y25) (lo' := [(1, .int y25), (0, .ref a0)]) dX9_image_88 rfl (by rw [e26]; rfl) (by decide) rfl ?_
    refine V.goto (tgt := 70) dX9_image_91 (by decide) ?_
    exact V.los [1, 0] rfl H27
set_option maxRecDepth 100000 in
set_option maxHeartbeats 4000000 in
theorem it_X9_image_96 {S : List mjD} {RET : Option Value → mjH → Prop} {a0 : Nat} (h0 : is_Model S a0) {x1 : Int32} {I : Nat → Nat → Int32} {L : Nat → Nat → Int64} (H0 : (((6 : Int32) ≤ x1 → ∃ r30 I31 L32, CTi mr_X9_filled [.ref a0] S I L r30 I31 L32 ∧ RET (some (.int r30)) (S, I31, L32)) ∧ (¬ (6 : Int32) ≤ x1 → (vp_in x1 6) ∧ (vp_in x1 6) ∧ (vp_in x1 6) ∧ (vp_in x1 6) ∧ (vp_in x1 6) ∧ (vp_in x1 6) ∧ ∀ y48 : Int32, y48 = x1 + 1 → hd_X9_image_96 S RET a0 y48 (mj_up (mj_up (mj_up I (a0 + 30) x1.toNatClampNeg (I (a0 + 4) x1.toNatClampNeg)) (a0 + 31) x1.toNatClampNeg ((mj_up I (a0 + 30) x1.toNatClampNeg (I (a0 + 4) x1.toNatClampNeg)) (a0 + 5) x1.toNatClampNeg)) (a0 + 32) x1.toNatClampNeg ((mj_up (mj_up I (a0 + 30) x1.toNatClampNeg (I (a0 + 4) x1.toNatClampNeg)) (a0 + 31) x1.toNatClampNeg ((mj_up I (a0 + 30) x1.toNatClampNeg (I (a0 + 4) x1.toNatClampNeg)) (a0 + 5) x1.toNatClampNeg)) (a0 + 6) x1.toNatClampNeg)) L))) : hd_X9_image_96 S RET a0 x1 I L := by
  unfold hd_X9_image_96
  refine V.iload_n dX9_image_96 rfl rfl ?_
  refine V.bipush (v := (6)) dX9_image_97 (by decide) ?_
  refine V.icmp_ge (tgt := 144) dX9_image_99 (by decide) (fun c28 => ?_) (fun c28 => ?_)
  · have H29 := H0.1 c28
    refine V.aload_n dX9_image_144 rfl rfl ?_
    obtain ⟨r30, I31, L32, t33, H34⟩ := H29
    refine V.cVi (N := mr_X9_filled) (as := []) dX9_image_145 ml_X9_436 ok_X9_filled okV_X9_filled ⟨Nat.le_of_ble_eq_true rfl, Nat.le_of_ble_eq_true rfl⟩ h0.1 rfl rfl rfl (Nat.le_of_ble_eq_true rfl) t33 ?_
    exact V.ret (v := some (.int r30)) rfl (Or.inl ⟨_, rfl, dX9_image_148, _, rfl, rfl⟩) ⟨Nat.le_refl _, Nat.le_refl _⟩ H34
  · have H35 := H0.2 c28
    refine V.aload_n dX9_image_102 rfl rfl ?_
    refine V.getf (v := .ref (a0 + 30)) dX9_image_103 fl_X9_99 h0.1 (by decide) rfl ?_
    refine V.iload_n dX9_image_106 rfl rfl ?_
    refine V.aload_n dX9_image_107 rfl rfl ?_
    refine V.getf (v := .ref (a0 + 4)) dX9_image_108 fl_X9_20 h0.1 (by decide) rfl ?_
    refine V.iload_n dX9_image_111 rfl rfl ?_
    obtain ⟨o36, H37⟩ := H35
    refine V.iald dX9_image_112 h0.2.2.2.2.1 o36 ?_
    obtain ⟨o38, H39⟩ := H37
    refine V.iast dX9_image_113 h0.2.2.2.2.2.2.2.2.2.2.2.2.2.2.2.2.2.2.2.2.2.2.2.2.2.2.2.2.2.2.1 o38 ?_
    refine V.aload_n dX9_image_114 rfl rfl ?_
    refine V.getf (v := .ref (a0 + 31)) dX9_image_115 fl_X9_102 h0.1 (by decide) rfl ?_
    refine V.iload_n dX9_image_118 rfl rfl ?_
    refine V.aload_n dX9_image_119 rfl rfl ?_
    refine V.getf (v := .ref (a0 + 5)) dX9_image_120 fl_X9_23 h0.1 (by decide) rfl ?_
    refine V.iload_n dX9_image_123 rfl rfl ?_
    obtain ⟨o40, H41⟩ := H39
    refine V.iald dX9_image_124 h0.2.2.2.2.2.1 o40 ?_
    obtain ⟨o42, H43⟩ := H41
    refine V.iast dX9_image_125 h0.2.2.2.2.2.2.2.2.2.2.2.2.2.2.2.2.2.2.2.2.2.2.2.2.2.2.2.2.2.2.2.1 o42 ?_
    refine V.aload_n dX9_image_126 rfl rfl ?_
    refine V.getf (v := .ref (a0 + 32)) dX9_image_127 fl_X9_105 h0.1 (by decide) rfl ?_
    refine V.iload_n dX9_image_130 rfl rfl ?_
    refine V.aload_n dX9_image_131 rfl rfl ?_
    refine V.getf (v := .ref (a0 + 6)) dX9_image_132 fl_X9_26 h0.1 (by decide) rfl ?_
    refine V.iload_n dX9_image_135 rfl rfl ?_
    obtain ⟨o44, H45⟩ := H43
    refine V.iald dX9_image_136 h0.2.2.2.2.2.2.1 o44 ?_
    obtain ⟨o46, H47⟩ := H45
    refine V.iast dX9_image_137 h0.2.2.2.2.2.2.2.2.2.2.2.2.2.2.2.2.2.2.2.2.2.2.2.2.2.2.2.2.2.2.2.2 o46 ?_
    obtain ⟨y48, e49⟩ : ∃ y : Int32, y = x1 + 1 := ⟨_, rfl⟩
    have H50 := H47 y48 e49
    refine V.iinc (v := y48) (lo' := [(1, .int y48), (0, .ref a0)]) dX9_image_138 rfl (by rw [e49]; rfl) (by decide) rfl ?_
    refine V.goto (tgt := 96) dX9_image_141 (by decide) ?_
    exact V.los [1, 0] rfl H50
set_option maxRecDepth 100000 in
set_option maxHeartbeats 4000000 in
theorem wp_X9_image {S : List mjD} {RET : Option Value → mjH → Prop} {m : Nat} (hm : is_Model S m) {I : Nat → Nat → Int32} {L : Nat → Nat → Int64} (H0 : ((¬ (I m 1) = 0 → hd_X9_image_33 S RET m (0 : Int32) (mj_up (mj_up (mj_up I m 48 (1 : Int32)) m 49 ((mj_up I m 48 (1 : Int32)) m 0)) m 50 ((mj_up (mj_up I m 48 (1 : Int32)) m 49 ((mj_up I m 48 (1 : Int32)) m 0)) m 5)) L) ∧ ((I m 1) = 0 → RET (some (.int (-103 : Int32))) (S, I, L)))) : CT mr_X9_image (0, 0) [.ref m] (S, I, L) RET := by
  refine CT.of (lo := [(0, .ref m)]) (by decide) (fun _ _ => Nat.le_of_ble_eq_true rfl) (fun _ _ => rfl) rfl ?_
  refine V.aload_n dX9_image_0 rfl rfl ?_
  refine V.getf (v := .int (I m 1)) dX9_image_1 fl_X9_168 hm.1 (by decide) rfl ?_
  refine V.if_ne (tgt := 10) dX9_image_4 (by decide) (fun c1 => ?_) (fun c1 => ?_)
  · have H2 := H0.1 c1
    refine V.aload_n dX9_image_10 rfl rfl ?_
    refine V.iconst (v := (1)) dX9_image_11 (by decide) ?_
    refine V.puti dX9_image_12 fl_X9_427 fp_X9_427 (Or.inr rfl) hm.1 (by decide) (by decide) (by decide) ?_
    refine V.aload_n dX9_image_15 rfl rfl ?_
    refine V.aload_n dX9_image_16 rfl rfl ?_
    refine V.getf (v := .int ((mj_up I m 48 (1 : Int32)) m 0)) dX9_image_17 fl_X9_171 hm.1 (by decide) rfl ?_
    refine V.puti dX9_image_20 fl_X9_430 fp_X9_430 (Or.inl rfl) hm.1 (by decide) rfl rfl ?_
    refine V.aload_n dX9_image_23 rfl rfl ?_
    refine V.aload_n dX9_image_24 rfl rfl ?_
    refine V.getf (v := .int ((mj_up (mj_up I m 48 (1 : Int32)) m 49 ((mj_up I m 48 (1 : Int32)) m 0)) m 5)) dX9_image_25 fl_X9_174 hm.1 (by decide) rfl ?_
    refine V.puti dX9_image_28 fl_X9_433 fp_X9_433 (Or.inl rfl) hm.1 (by decide) rfl rfl ?_
    refine V.iconst (v := (0)) dX9_image_31 (by decide) ?_
    refine V.istore_n (lo' := [(1, .int (0 : Int32)), (0, .ref m)]) dX9_image_32 rfl (by decide) rfl ?_
    exact V.los [1, 0] rfl H2
  · have H3 := H0.2 c1
    refine V.bipush (v := (-103)) dX9_image_7 (by decide) ?_
    exact V.ret (v := some (.int (-103 : Int32))) rfl (Or.inl ⟨_, rfl, dX9_image_9, _, rfl, rfl⟩) ⟨Nat.le_refl _, Nat.le_refl _⟩ H3
def hd_X9_restore_31 (S : List mjD) (RET : Option Value → mjH → Prop) (a0 : Nat) (x1 : Int32) (I : Nat → Nat → Int32) (L : Nat → Nat → Int64) : Prop := V mr_X9_restore (0, 0) RET 31 [(0, .ref a0), (1, .int x1)] [] (S, I, L) (0, 0)
def hd_X9_restore_68 (S : List mjD) (RET : Option Value → mjH → Prop) (a0 : Nat) (x1 : Int32) (I : Nat → Nat → Int32) (L : Nat → Nat → Int64) : Prop := V mr_X9_restore (0, 0) RET 68 [(0, .ref a0), (1, .int x1)] [] (S, I, L) (0, 0)
def hd_X9_restore_94 (S : List mjD) (RET : Option Value → mjH → Prop) (a0 : Nat) (x1 : Int32) (I : Nat → Nat → Int32) (L : Nat → Nat → Int64) : Prop := V mr_X9_restore (0, 0) RET 94 [(0, .ref a0), (1, .int x1)] [] (S, I, L) (0, 0)
set_option maxRecDepth 100000 in
set_option maxHeartbeats 4000000 in
theorem it_X9_restore_31 {S : List mjD} {RET : Option Value → mjH → Prop} {a0 : Nat} (h0 : is_Model S a0) {x1 : Int32} {I : Nat → Nat → Int32} {L : Nat → Nat → Int64} (H0 : (((4 : Int32) ≤ x1 → hd_X9_restore_68 S RET a0 (0 : Int32) I L) ∧ (¬ (4 : Int32) ≤ x1 → (vp_in x1 4) ∧ (vp_in x1 4) ∧ (vp_in x1 4) ∧ (vp_in x1 4) ∧ ∀ y18 : Int32, y18 = x1 + 1 → hd_X9_restore_31 S RET a0 y18 (mj_up (mj_up I (a0 + 1) x1.toNatClampNeg (I (a0 + 27) x1.toNatClampNeg)) (a0 + 3) x1.toNatClampNeg ((mj_up I (a0 + 1) x1.toNatClampNeg (I (a0 + 27) x1.toNatClampNeg)) (a0 + 28) x1.toNatClampNeg)) L))) : hd_X9_restore_31 S RET a0 x1 I L := by
  unfold hd_X9_restore_31
  refine V.iload_n dX9_restore_31 rfl rfl ?_
  refine V.iconst (v := (4)) dX9_restore_32 (by decide) ?_
  refine V.icmp_ge (tgt := 66) dX9_restore_33 (by decide) (fun c7 => ?_) (fun c7 => ?_)
  · have H8 := H0.1 c7
    refine V.iconst (v := (0)) dX9_restore_66 (by decide) ?_
    refine V.istore_n (lo' := [(1, .int (0 : Int32)), (0, .ref a0)]) dX9_restore_67 rfl (by decide) rfl ?_
    exact V.los [1, 0] rfl H8
  · have H9 := H0.2 c7
    refine V.aload_n dX9_restore_36 rfl rfl ?_
    refine V.getf (v := .ref (a0 + 1)) dX9_restore_37 fl_X9_7 h0.1 (by decide) rfl ?_
    refine V.iload_n dX9_restore_40 rfl rfl ?_
    refine V.aload_n dX9_restore_41 rfl rfl ?_
    refine V.getf (v := .ref (a0 + 27)) dX9_restore_42 fl_X9_90 h0.1 (by decide) rfl ?_
    refine V.iload_n dX9_restore_45 rfl rfl ?_
    obtain ⟨o10, H11⟩ := H9
    refine V.iald dX9_restore_46 h0.2.2.2.2.2.2.2.2.2.2.2.2.2.2.2.2.2.2.2.2.2.2.2.2.2.2.2.1 o10 ?_
    obtain ⟨o12, H13⟩ := H11
    refine V.iast dX9_restore_47 h0.2.1 o12 ?_
    refine V.aload_n dX9_restore_48 rfl rfl ?_
    refine V.getf (v := .ref (a0 + 3)) dX9_restore_49 fl_X9_17 h0.1 (by decide) rfl ?_
    refine V.iload_n dX9_restore_52 rfl rfl ?_
    refine V.aload_n dX9_restore_53 rfl rfl ?_
    refine V.getf (v := .ref (a0 + 28)) dX9_restore_54 fl_X9_93 h0.1 (by decide) rfl ?_
    refine V.iload_n dX9_restore_57 rfl rfl ?_
    obtain ⟨o14, H15⟩ := H13
    refine V.iald dX9_restore_58 h0.2.2.2.2.2.2.2.2.2.2.2.2.2.2.2.2.2.2.2.2.2.2.2.2.2.2.2.2.1 o14 ?_
    obtain ⟨o16, H17⟩ := H15
    refine V.iast dX9_restore_59 h0.2.2.2.1 o16 ?_
    obtain ⟨y18, e19⟩ : ∃ y : Int32, y = x1 + 1 := ⟨_, rfl⟩
    have H20 := H17 y18 e19
    refine V.iinc (v := y18) (lo' := [(1, .int y18), (0, .ref a0)]) dX9_restore_60 rfl (by rw [e19]; rfl) (by decide) rfl ?_
    refine V.goto (tgt := 31) dX9_restore_63 (by decide) ?_
    exact V.los [1, 0] rfl H20
set_option maxRecDepth 100000 in
set_option maxHeartbeats 4000000 in
theorem it_X9_restore_68 {S : List mjD} {RET : Option Value → mjH → Prop} {a0 : Nat} (h0 : is_Model S a0) {x1 : Int32} {I : Nat → Nat → Int32} {L : Nat → Nat → Int64} (H0 : (((24 : Int32) ≤ x1 → hd_X9_restore_94 S RET a0 (0 : Int32) I L) ∧ (¬ (24 : Int32) ≤ x1 → (vp_in x1 24) ∧ (vp_in x1 24) ∧ ∀ y28 : Int32, y28 = x1 + 1 → hd_X9_restore_68 S RET a0 y28 I (mj_up L (a0 + 2) x1.toNatClampNeg (L (a0 + 29) x1.toNatClampNeg))))) : hd_X9_restore_68 S RET a0 x1 I L := by
  unfold hd_X9_restore_68
  refine V.iload_n dX9_restore_68 rfl rfl ?_
  refine V.bipush (v := (24)) dX9_restore_69 (by decide) ?_
  refine V.icmp_ge (tgt := 92) dX9_restore_71 (by decide) (fun c21 => ?_) (fun c21 => ?_)
  · have H22 := H0.1 c21
    refine V.iconst (v := (0)) dX9_restore_92 (by decide) ?_
    refine V.istore_n (lo' := [(1, .int (0 : Int32)), (0, .ref a0)]) dX9_restore_93 rfl (by decide) rfl ?_
    exact V.los [1, 0] rfl H22
  · have H23 := H0.2 c21
    refine V.aload_n dX9_restore_74 rfl rfl ?_
    refine V.getf (v := .ref (a0 + 2)) dX9_restore_75 fl_X9_13 h0.1 (by decide) rfl ?_
    refine V.iload_n dX9_restore_78 rfl rfl ?_
    refine V.aload_n dX9_restore_79 rfl rfl ?_
    refine V.getf (v := .ref (a0 + 29)) dX9_restore_80 fl_X9_96 h0.1 (by decide) rfl ?_
    refine V.iload_n dX9_restore_83 rfl rfl ?_
    obtain ⟨o24, H25⟩ := H23
    refine V.lald dX9_restore_84 h0.2.2.2.2.2.2.2.2.2.2.2.2.2.2.2.2.2.2.2.2.2.2.2.2.2.2.2.2.2.1 o24 ?_
    obtain ⟨o26, H27⟩ := H25
    refine V.last dX9_restore_85 h0.2.2.1 o26 ?_
    obtain ⟨y28, e29⟩ : ∃ y : Int32, y = x1 + 1 := ⟨_, rfl⟩
    have H30 := H27 y28 e29
    refine V.iinc (v := y28) (lo' := [(1, .int y28), (0, .ref a0)]) dX9_restore_86 rfl (by rw [e29]; rfl) (by decide) rfl ?_
    refine V.goto (tgt := 68) dX9_restore_89 (by decide) ?_
    exact V.los [1, 0] rfl H30
set_option maxRecDepth 100000 in
set_option maxHeartbeats 4000000 in
theorem it_X9_restore_94 {S : List mjD} {RET : Option Value → mjH → Prop} {a0 : Nat} (h0 : is_Model S a0) {x1 : Int32} {I : Nat → Nat → Int32} {L : Nat → Nat → Int64} (H0 : (((6 : Int32) ≤ x1 → ∃ r33 I34 L35, CTi mr_X9_filled [.ref a0] S I L r33 I34 L35 ∧ RET (some (.int r33)) (S, I34, L35)) ∧ (¬ (6 : Int32) ≤ x1 → (vp_in x1 6) ∧ (vp_in x1 6) ∧ (vp_in x1 6) ∧ (vp_in x1 6) ∧ (vp_in x1 6) ∧ (vp_in x1 6) ∧ ∀ y51 : Int32, y51 = x1 + 1 → hd_X9_restore_94 S RET a0 y51 (mj_up (mj_up (mj_up I (a0 + 4) x1.toNatClampNeg (I (a0 + 30) x1.toNatClampNeg)) (a0 + 5) x1.toNatClampNeg ((mj_up I (a0 + 4) x1.toNatClampNeg (I (a0 + 30) x1.toNatClampNeg)) (a0 + 31) x1.toNatClampNeg)) (a0 + 6) x1.toNatClampNeg ((mj_up (mj_up I (a0 + 4) x1.toNatClampNeg (I (a0 + 30) x1.toNatClampNeg)) (a0 + 5) x1.toNatClampNeg ((mj_up I (a0 + 4) x1.toNatClampNeg (I (a0 + 30) x1.toNatClampNeg)) (a0 + 31) x1.toNatClampNeg)) (a0 + 32) x1.toNatClampNeg)) L))) : hd_X9_restore_94 S RET a0 x1 I L := by
  unfold hd_X9_restore_94
  refine V.iload_n dX9_restore_94 rfl rfl ?_
  refine V.bipush (v := (6)) dX9_restore_95 (by decide) ?_
  refine V.icmp_ge (tgt := 142) dX9_restore_97 (by decide) (fun c31 => ?_) (fun c31 => ?_)
  · have H32 := H0.1 c31
    refine V.aload_n dX9_restore_142 rfl rfl ?_
    obtain ⟨r33, I34, L35, t36, H37⟩ := H32
    refine V.cVi (N := mr_X9_filled) (as := []) dX9_restore_143 ml_X9_436 ok_X9_filled okV_X9_filled ⟨Nat.le_of_ble_eq_true rfl, Nat.le_of_ble_eq_true rfl⟩ h0.1 rfl rfl rfl (Nat.le_of_ble_eq_true rfl) t36 ?_
    exact V.ret (v := some (.int r33)) rfl (Or.inl ⟨_, rfl, dX9_restore_146, _, rfl, rfl⟩) ⟨Nat.le_refl _, Nat.le_refl _⟩ H37
  · have H38 := H0.2 c31
    refine V.aload_n dX9_restore_100 rfl rfl ?_
    refine V.getf (v := .ref (a0 + 4)) dX9_restore_101 fl_X9_20 h0.1 (by decide) rfl ?_
    refine V.iload_n dX9_restore_104 rfl rfl ?_
    refine V.aload_n dX9_restore_105 rfl rfl ?_
    refine V.getf (v := .ref (a0 + 30)) dX9_restore_106 fl_X9_99 h0.1 (by decide) rfl ?_
    refine V.iload_n dX9_restore_109 rfl rfl ?_
    obtain ⟨o39, H40⟩ := H38
    refine V.iald dX9_restore_110 h0.2.2.2.2.2.2.2.2.2.2.2.2.2.2.2.2.2.2.2.2.2.2.2.2.2.2.2.2.2.2.1 o39 ?_
    obtain ⟨o41, H42⟩ := H40
    refine V.iast dX9_restore_111 h0.2.2.2.2.1 o41 ?_
    refine V.aload_n dX9_restore_112 rfl rfl ?_
    refine V.getf (v := .ref (a0 + 5)) dX9_restore_113 fl_X9_23 h0.1 (by decide) rfl ?_
    refine V.iload_n dX9_restore_116 rfl rfl ?_
    refine V.aload_n dX9_restore_117 rfl rfl ?_
    refine V.getf (v := .ref (a0 + 31)) dX9_restore_118 fl_X9_102 h0.1 (by decide) rfl ?_
    refine V.iload_n dX9_restore_121 rfl rfl ?_
    obtain ⟨o43, H44⟩ := H42
    refine V.iald dX9_restore_122 h0.2.2.2.2.2.2.2.2.2.2.2.2.2.2.2.2.2.2.2.2.2.2.2.2.2.2.2.2.2.2.2.1 o43 ?_
    obtain ⟨o45, H46⟩ := H44
    refine V.iast dX9_restore_123 h0.2.2.2.2.2.1 o45 ?_
    refine V.aload_n dX9_restore_124 rfl rfl ?_
    refine V.getf (v := .ref (a0 + 6)) dX9_restore_125 fl_X9_26 h0.1 (by decide) rfl ?_
    refine V.iload_n dX9_restore_128 rfl rfl ?_
    refine V.aload_n dX9_restore_129 rfl rfl ?_
    refine V.getf (v := .ref (a0 + 32)) dX9_restore_130 fl_X9_105 h0.1 (by decide) rfl ?_
    refine V.iload_n dX9_restore_133 rfl rfl ?_
    obtain ⟨o47, H48⟩ := H46
    refine V.iald dX9_restore_134 h0.2.2.2.2.2.2.2.2.2.2.2.2.2.2.2.2.2.2.2.2.2.2.2.2.2.2.2.2.2.2.2.2 o47 ?_
    obtain ⟨o49, H50⟩ := H48
    refine V.iast dX9_restore_135 h0.2.2.2.2.2.2.1 o49 ?_
    obtain ⟨y51, e52⟩ : ∃ y : Int32, y = x1 + 1 := ⟨_, rfl⟩
    have H53 := H50 y51 e52
    refine V.iinc (v := y51) (lo' := [(1, .int y51), (0, .ref a0)]) dX9_restore_136 rfl (by rw [e52]; rfl) (by decide) rfl ?_
    refine V.goto (tgt := 94) dX9_restore_139 (by decide) ?_
    exact V.los [1, 0] rfl H53
set_option maxRecDepth 100000 in
set_option maxHeartbeats 4000000 in
theorem wp_X9_restore {S : List mjD} {RET : Option Value → mjH → Prop} {m : Nat} (hm : is_Model S m) {I : Nat → Nat → Int32} {L : Nat → Nat → Int64} (H0 : (((I m 48) = 0 → RET (some (.int (-103 : Int32))) (S, I, L)) ∧ (¬ (I m 48) = 0 → (((I m 49) = (I m 0) → hd_X9_restore_31 S RET m (0 : Int32) (mj_up I m 5 (I m 50)) L) ∧ (¬ (I m 49) = (I m 0) → RET (some (.int (-103 : Int32))) (S, I, L)))))) : CT mr_X9_restore (0, 0) [.ref m] (S, I, L) RET := by
  refine CT.of (lo := [(0, .ref m)]) (by decide) (fun _ _ => Nat.le_of_ble_eq_true rfl) (fun _ _ => rfl) rfl ?_
  refine V.aload_n dX9_restore_0 rfl rfl ?_
  refine V.getf (v := .int (I m 48)) dX9_restore_1 fl_X9_427 hm.1 (by decide) rfl ?_
  refine V.if_eq (tgt := 18) dX9_restore_4 (by decide) (fun c1 => ?_) (fun c1 => ?_)
  · have H2 := H0.1 c1
    refine V.bipush (v := (-103)) dX9_restore_18 (by decide) ?_
    exact V.ret (v := some (.int (-103 : Int32))) rfl (Or.inl ⟨_, rfl, dX9_restore_20, _, rfl, rfl⟩) ⟨Nat.le_refl _, Nat.le_refl _⟩ H2
  · have H3 := H0.2 c1
    refine V.aload_n dX9_restore_7 rfl rfl ?_
    refine V.getf (v := .int (I m 49)) dX9_restore_8 fl_X9_430 hm.1 (by decide) rfl ?_
    refine V.aload_n dX9_restore_11 rfl rfl ?_
    refine V.getf (v := .int (I m 0)) dX9_restore_12 fl_X9_171 hm.1 (by decide) rfl ?_
    refine V.icmp_eq (tgt := 21) dX9_restore_15 (by decide) (fun c4 => ?_) (fun c4 => ?_)
    · have H5 := H3.1 c4
      refine V.aload_n dX9_restore_21 rfl rfl ?_
      refine V.aload_n dX9_restore_22 rfl rfl ?_
      refine V.getf (v := .int (I m 50)) dX9_restore_23 fl_X9_433 hm.1 (by decide) rfl ?_
      refine V.puti dX9_restore_26 fl_X9_174 fp_X9_174 (Or.inl rfl) hm.1 (by decide) rfl rfl ?_
      refine V.iconst (v := (0)) dX9_restore_29 (by decide) ?_
      refine V.istore_n (lo' := [(1, .int (0 : Int32)), (0, .ref m)]) dX9_restore_30 rfl (by decide) rfl ?_
      exact V.los [1, 0] rfl H5
    · have H6 := H3.2 c4
      refine V.bipush (v := (-103)) dX9_restore_18 (by decide) ?_
      exact V.ret (v := some (.int (-103 : Int32))) rfl (Or.inl ⟨_, rfl, dX9_restore_20, _, rfl, rfl⟩) ⟨Nat.le_refl _, Nat.le_refl _⟩ H6
set_option maxRecDepth 100000 in
set_option maxHeartbeats 4000000 in
theorem wp_X9_letter {S : List mjD} {RET : Option Value → mjH → Prop} {m : Nat} (hm : is_Model S m) {a : Int32} {I : Nat → Nat → Int32} {L : Nat → Nat → Int64} (H0 : ∃ r1 I2 L3, CTi mr_X9_within [.long a.toInt64, .long (32 : Int64), .long (126 : Int64)] S I L r1 I2 L3 ∧ ((¬ r1 = 0 → ((¬ (I2 m 9) = (40 : Int32) → (vp_in (I2 m 9) 40) ∧ RET (some (.int ((mj_up (mj_up I2 (m + 7) (I2 m 9).toNatClampNeg a.toInt8.toInt32.toInt8.toInt32) m 9 (((mj_up I2 (m + 7) (I2 m 9).toNatClampNeg a.toInt8.toInt32.toInt8.toInt32) m 9) + (1 : Int32))) m 9))) (S, mj_up (mj_up I2 (m + 7) (I2 m 9).toNatClampNeg a.toInt8.toInt32.toInt8.toInt32) m 9 (((mj_up I2 (m + 7) (I2 m 9).toNatClampNeg a.toInt8.toInt32.toInt8.toInt32) m 9) + (1 : Int32)), L3)) ∧ ((I2 m 9) = (40 : Int32) → RET (some (.int (-104 : Int32))) (S, I2, L3)))) ∧ (r1 = 0 → RET (some (.int (-102 : Int32))) (S, I2, L3)))) : CT mr_X9_letter (0, 0) [.ref m, .int a] (S, I, L) RET := by
  refine CT.of (lo := [(0, .ref m), (1, .int a)]) (by decide) (fun _ _ => Nat.le_of_ble_eq_true rfl) (fun _ _ => rfl) rfl ?_
  refine V.iload_n dX9_letter_0 rfl rfl ?_
  refine V.i2l dX9_letter_1 ?_
  refine V.ldc2 kc_X9_112 dX9_letter_2 ?_
  refine V.ldc2 kc_X9_114 dX9_letter_5 ?_
  obtain ⟨r1, I2, L3, t4, H5⟩ := H0
  refine V.cSi (N := mr_X9_within) (as := [.long a.toInt64, .long (32 : Int64), .long (126 : Int64)]) dX9_letter_8 ml_X9_116 ok_X9_within okS_X9_within ⟨Nat.le_of_ble_eq_true rfl, Nat.le_of_ble_eq_true rfl⟩ rfl rfl (Nat.le_of_ble_eq_true rfl) t4 ?_
  refine V.if_ne (tgt := 17) dX9_letter_11 (by decide) (fun c6 => ?_) (fun c6 => ?_)
  · have H7 := H5.1 c6
    refine V.aload_n dX9_letter_17 rfl rfl ?_
    refine V.getf (v := .int (I2 m 9)) dX9_letter_18 fl_X9_120 hm.1 (by decide) rfl ?_
    refine V.bipush (v := (40)) dX9_letter_21 (by decide) ?_
    refine V.icmp_ne (tgt := 29) dX9_letter_23 (by decide) (fun c8 => ?_) (fun c8 => ?_)
    · have H9 := H7.1 c8
      refine V.aload_n dX9_letter_29 rfl rfl ?_
      refine V.getf (v := .ref (m + 7)) dX9_letter_30 fl_X9_29 hm.1 (by decide) rfl ?_
      refine V.aload_n dX9_letter_33 rfl rfl ?_
      refine V.getf (v := .int (I2 m 9)) dX9_letter_34 fl_X9_120 hm.1 (by decide) rfl ?_
      refine V.iload_n dX9_letter_37 rfl rfl ?_
      refine V.i2b dX9_letter_38 ?_
      obtain ⟨o10, H11⟩ := H9
      refine V.bast dX9_letter_39 hm.2.2.2.2.2.2.2.1 o10 ?_
      refine V.aload_n dX9_letter_40 rfl rfl ?_
      refine V.dup dX9_letter_41 rfl ?_
      refine V.getf (v := .int ((mj_up I2 (m + 7) (I2 m 9).toNatClampNeg a.toInt8.toInt32.toInt8.toInt32) m 9)) dX9_letter_42 fl_X9_120 hm.1 (by decide) rfl ?_
      refine V.iconst (v := (1)) dX9_letter_45 (by decide) ?_
      refine V.iadd dX9_letter_46 ?_
      refine V.puti dX9_letter_47 fl_X9_120 fp_X9_120 (Or.inl rfl) hm.1 (by decide) rfl rfl ?_
      refine V.aload_n dX9_letter_50 rfl rfl ?_
      refine V.getf (v := .int ((mj_up (mj_up I2 (m + 7) (I2 m 9).toNatClampNeg a.toInt8.toInt32.toInt8.toInt32) m 9 (((mj_up I2 (m + 7) (I2 m 9).toNatClampNeg a.toInt8.toInt32.toInt8.toInt32) m 9) + (1 : Int32))) m 9)) dX9_letter_51 fl_X9_120 hm.1 (by decide) rfl ?_
      exact V.ret (v := some (.int ((mj_up (mj_up I2 (m + 7) (I2 m 9).toNatClampNeg a.toInt8.toInt32.toInt8.toInt32) m 9 (((mj_up I2 (m + 7) (I2 m 9).toNatClampNeg a.toInt8.toInt32.toInt8.toInt32) m 9) + (1 : Int32))) m 9))) rfl (Or.inl ⟨_, rfl, dX9_letter_54, _, rfl, rfl⟩) ⟨Nat.le_refl _, Nat.le_refl _⟩ H11
    · have H12 := H7.2 c8
      refine V.bipush (v := (-104)) dX9_letter_26 (by decide) ?_
      exact V.ret (v := some (.int (-104 : Int32))) rfl (Or.inl ⟨_, rfl, dX9_letter_28, _, rfl, rfl⟩) ⟨Nat.le_refl _, Nat.le_refl _⟩ H12
  · have H13 := H5.2 c6
    refine V.bipush (v := (-102)) dX9_letter_14 (by decide) ?_
    exact V.ret (v := some (.int (-102 : Int32))) rfl (Or.inl ⟨_, rfl, dX9_letter_16, _, rfl, rfl⟩) ⟨Nat.le_refl _, Nat.le_refl _⟩ H13
set_option maxRecDepth 100000 in
set_option maxHeartbeats 4000000 in
theorem wp_X9_isFigure {S : List mjD} {RET : Option Value → mjH → Prop} {m : Nat} (hm : is_Model S m) {a : Int32} {b : Int32} {c : Int32} {I : Nat → Nat → Int32} {L : Nat → Nat → Int64} (H0 : ∃ r1 I2 L3, CTi mr_X9_at [.ref m, .int a] S I L r1 I2 L3 ∧ ∃ r6 I7 L8, CTi mr_X9_within [.long ((r1 - (48 : Int32)).toInt64), .long b.toInt64, .long c.toInt64] S I2 L3 r6 I7 L8 ∧ (r6 = 0 ∨ r6 = 1) ∧ RET (some (.int r6)) (S, I7, L8)) : CT mr_X9_isFigure (0, 0) [.ref m, .int a, .int b, .int c] (S, I, L) RET := by
  refine CT.of (lo := [(0, .ref m), (1, .int a), (2, .int b), (3, .int c)]) (by decide) (fun _ _ => Nat.le_of_ble_eq_true rfl) (fun _ _ => rfl) rfl ?_
  refine V.aload_n dX9_isFigure_0 rfl rfl ?_
  refine V.iload_n dX9_isFigure_1 rfl rfl ?_
  obtain ⟨r1, I2, L3, t4, H5⟩ := H0
  refine V.cVi (N := mr_X9_at) (as := [.int a]) dX9_isFigure_2 ml_X9_124 ok_X9_at okV_X9_at ⟨Nat.le_of_ble_eq_true rfl, Nat.le_of_ble_eq_true rfl⟩ hm.1 rfl rfl rfl (Nat.le_of_ble_eq_true rfl) t4 ?_
  refine V.bipush (v := (48)) dX9_isFigure_5 (by decide) ?_
  refine V.isub dX9_isFigure_7 ?_
  refine V.i2l dX9_isFigure_8 ?_
  refine V.iload_n dX9_isFigure_9 rfl rfl ?_
  refine V.i2l dX9_isFigure_10 ?_
  refine V.iload_n dX9_isFigure_11 rfl rfl ?_
  refine V.i2l dX9_isFigure_12 ?_
  obtain ⟨r6, I7, L8, t9, H10⟩ := H5
  refine V.cSi (N := mr_X9_within) (as := [.long ((r1 - (48 : Int32)).toInt64), .long b.toInt64, .long c.toInt64]) dX9_isFigure_13 ml_X9_116 ok_X9_within okS_X9_within ⟨Nat.le_of_ble_eq_true rfl, Nat.le_of_ble_eq_true rfl⟩ rfl rfl (Nat.le_of_ble_eq_true rfl) t9 ?_
  obtain ⟨o11, H12⟩ := H10
  exact V.ret (v := some (.int r6)) rfl (Or.inl ⟨_, rfl, dX9_isFigure_16, _, rfl, (mj_zn o11)⟩) ⟨Nat.le_refl _, Nat.le_refl _⟩ H12
def hd_X9_desk_15 (S : List mjD) (RET : Option Value → mjH → Prop) (a0 : Nat) (x1 : Int32) (x2 : Int32) (I : Nat → Nat → Int32) (L : Nat → Nat → Int64) : Prop := V mr_X9_desk (0, 0) RET 15 [(0, .ref a0), (1, .int x1), (2, .int x2)] [] (S, I, L) (0, 0)
def hd_X9_desk_69 (S : List mjD) (RET : Option Value → mjH → Prop) (a0 : Nat) (x2 : Int32) (I : Nat → Nat → Int32) (L : Nat → Nat → Int64) : Prop := V mr_X9_desk (0, 0) RET 69 [(0, .ref a0), (2, .int x2)] [] (S, I, L) (0, 0)
set_option maxRecDepth 100000 in
set_option maxHeartbeats 4000000 in
theorem it_X9_desk_15 {S : List mjD} {RET : Option Value → mjH → Prop} {a0 : Nat} (h0 : is_Model S a0) {x1 : Int32} {x2 : Int32} {I : Nat → Nat → Int32} {L : Nat → Nat → Int64} (H0 : (((I a0 9) ≤ x2 → ((¬ x1 = 0 → hd_X9_desk_69 S RET a0 (0 : Int32) (mj_up I a0 1 (I a0 9)) L) ∧ (x1 = 0 → RET (some (.int (-103 : Int32))) (S, I, L)))) ∧ (¬ (I a0 9) ≤ x2 → ((x1 = 0 → ((¬ x1 = 0 → hd_X9_desk_69 S RET a0 (0 : Int32) (mj_up I a0 1 (I a0 9)) L) ∧ (x1 = 0 → RET (some (.int (-103 : Int32))) (S, I, L)))) ∧ (¬ x1 = 0 → (vp_in x2 40) ∧ ∃ r20 I21 L22, CTi mr_X9_kindBy [.int (I (a0 + 7) x2.toNatClampNeg)] S I L r20 I21 L22 ∧ ((r20 = (-1 : Int32) → ∀ y27 : Int32, y27 = x2 + 1 → hd_X9_desk_15 S RET a0 (0 : Int32) y27 I21 L22) ∧ (¬ r20 = (-1 : Int32) → ∀ y31 : Int32, y31 = x2 + 1 → hd_X9_desk_15 S RET a0 (1 : Int32) y31 I21 L22))))))) : hd_X9_desk_15 S RET a0 x1 x2 I L := by
  unfold hd_X9_desk_15
  refine V.iload_n dX9_desk_15 rfl rfl ?_
  refine V.aload_n dX9_desk_16 rfl rfl ?_
  refine V.getf (v := .int (I a0 9)) dX9_desk_17 fl_X9_120 h0.1 (by decide) rfl ?_
  refine V.icmp_ge (tgt := 52) dX9_desk_20 (by decide) (fun c6 => ?_) (fun c6 => ?_)
  · have H7 := H0.1 c6
    refine V.iload_n dX9_desk_52 rfl rfl ?_
    refine V.if_ne (tgt := 59) dX9_desk_53 (by decide) (fun c8 => ?_) (fun c8 => ?_)
    · have H9 := H7.1 c8
      refine V.aload_n dX9_desk_59 rfl rfl ?_
      refine V.aload_n dX9_desk_60 rfl rfl ?_
      refine V.getf (v := .int (I a0 9)) dX9_desk_61 fl_X9_120 h0.1 (by decide) rfl ?_
      refine V.puti dX9_desk_64 fl_X9_168 fp_X9_168 (Or.inl rfl) h0.1 (by decide) rfl rfl ?_
      refine V.iconst (v := (0)) dX9_desk_67 (by decide) ?_
      refine V.istore_n (lo' := [(2, .int (0 : Int32)), (0, .ref a0), (1, .int x1)]) dX9_desk_68 rfl (by decide) rfl ?_
      exact V.los [1, 0] rfl H9
    · have H10 := H7.2 c8
      refine V.bipush (v := (-103)) dX9_desk_56 (by decide) ?_
      exact V.ret (v := some (.int (-103 : Int32))) rfl (Or.inl ⟨_, rfl, dX9_desk_58, _, rfl, rfl⟩) ⟨Nat.le_refl _, Nat.le_refl _⟩ H10
  · have H11 := H0.2 c6
    refine V.iload_n dX9_desk_23 rfl rfl ?_
    refine V.if_eq (tgt := 52) dX9_desk_24 (by decide) (fun c12 => ?_) (fun c12 => ?_)
    · have H13 := H11.1 c12
      refine V.iload_n dX9_desk_52 rfl rfl ?_
      refine V.if_ne (tgt := 59) dX9_desk_53 (by decide) (fun c14 => ?_) (fun c14 => ?_)
      · have H15 := H13.1 c14
        refine V.aload_n dX9_desk_59 rfl rfl ?_
        refine V.aload_n dX9_desk_60 rfl rfl ?_
        refine V.getf (v := .int (I a0 9)) dX9_desk_61 fl_X9_120 h0.1 (by decide) rfl ?_
        refine V.puti dX9_desk_64 fl_X9_168 fp_X9_168 (Or.inl rfl) h0.1 (by decide) rfl rfl ?_
        refine V.iconst (v := (0)) dX9_desk_67 (by decide) ?_
        refine V.istore_n (lo' := [(2, .int (0 : Int32)), (0, .ref a0), (1, .int x1)]) dX9_desk_68 rfl (by decide) rfl ?_
        exact V.los [1, 0] rfl H15
      · have H16 := H13.2 c14
        refine V.bipush (v := (-103)) dX9_desk_56 (by decide) ?_
        exact V.ret (v := some (.int (-103 : Int32))) rfl (Or.inl ⟨_, rfl, dX9_desk_58, _, rfl, rfl⟩) ⟨Nat.le_refl _, Nat.le_refl _⟩ H16
    · have H17 := H11.2 c12
      refine V.aload_n dX9_desk_27 rfl rfl ?_
      refine V.getf (v := .ref (a0 + 7)) dX9_desk_28 fl_X9_29 h0.1 (by decide) rfl ?_
      refine V.iload_n dX9_desk_31 rfl rfl ?_
      obtain ⟨o18, H19⟩ := H17
      refine V.bald dX9_desk_32 h0.2.2.2.2.2.2.2.1 o18 ?_
      obtain ⟨r20, I21, L22, t23, H24⟩ := H19
      refine V.cSi (N := mr_X9_kindBy) (as := [.int (I (a0 + 7) x2.toNatClampNeg)]) dX9_desk_33 ml_X9_165 ok_X9_kindBy okS_X9_kindBy ⟨Nat.le_of_ble_eq_true rfl, Nat.le_of_ble_eq_true rfl⟩ rfl rfl (Nat.le_of_ble_eq_true rfl) t23 ?_
      refine V.iconst (v := (-1)) dX9_desk_36 (by decide) ?_
      refine V.icmp_eq (tgt := 44) dX9_desk_37 (by decide) (fun c25 => ?_) (fun c25 => ?_)
      · have H26 := H24.1 c25
        refine V.iconst (v := (0)) dX9_desk_44 (by decide) ?_
        refine V.istore_n (lo' := [(1, .int (0 : Int32)), (0, .ref a0), (2, .int x2)]) dX9_desk_45 rfl (by decide) rfl ?_
        obtain ⟨y27, e28⟩ : ∃ y : Int32, y = x2 + 1 := ⟨_, rfl⟩
        have H29 := H26 y27 e28
        refine V.iinc (v := y27) (lo' := [(2, .int y27), (1, .int (0 : Int32)), (0, .ref a0)]) dX9_desk_46 rfl (by rw [e28]; rfl) (by decide) rfl ?_
        refine V.goto (tgt := 15) dX9_desk_49 (by decide) ?_
        exact V.los [2, 1, 0] rfl H29
      · have H30 := H24.2 c25
        refine V.iconst (v := (1)) dX9_desk_40 (by decide) ?_
        refine V.goto (tgt := 45) dX9_desk_41 (by decide) ?_
        refine V.istore_n (lo' := [(1, .int (1 : Int32)), (0, .ref a0), (2, .int x2)]) dX9_desk_45 rfl (by decide) rfl ?_
        obtain ⟨y31, e32⟩ : ∃ y : Int32, y = x2 + 1 := ⟨_, rfl⟩
        have H33 := H30 y31 e32
        refine V.iinc (v := y31) (lo' := [(2, .int y31), (1, .int (1 : Int32)), (0, .ref a0)]) dX9_desk_46 rfl (by rw [e32]; rfl) (by decide) rfl ?_
        refine V.goto (tgt := 15) dX9_desk_49 (by decide) ?_
        exact V.los [2, 1, 0] rfl H33
set_option maxRecDepth 100000 in
set_option maxHeartbeats 4000000 in
theorem it_X9_desk_69 {S : List mjD} {RET : Option Value → mjH → Prop} {a0 : Nat} (h0 : is_Model S a0) {x2 : Int32} {I : Nat → Nat → Int32} {L : Nat → Nat → Int64} (H0 : (((I a0 1) ≤ x2 → RET (some (.int ((mj_up (mj_up (mj_up I a0 0 ((I a0 0) + (1 : Int32))) a0 5 (0 : Int32)) a0 9 (0 : Int32)) a0 1))) (S, mj_up (mj_up (mj_up I a0 0 ((I a0 0) + (1 : Int32))) a0 5 (0 : Int32)) a0 9 (0 : Int32), L)) ∧ (¬ (I a0 1) ≤ x2 → (vp_in x2 40) ∧ ∃ r39 I40 L41, CTi mr_X9_kindBy [.int (I (a0 + 7) x2.toNatClampNeg)] S I L r39 I40 L41 ∧ (vp_in x2 4) ∧ (vp_in x2 4) ∧ ∀ y48 : Int32, y48 = x2 + 1 → hd_X9_desk_69 S RET a0 y48 (mj_up (mj_up I40 (a0 + 1) x2.toNatClampNeg r39) (a0 + 3) x2.toNatClampNeg (-1 : Int32)) L41))) : hd_X9_desk_69 S RET a0 x2 I L := by
  unfold hd_X9_desk_69
  refine V.iload_n dX9_desk_69 rfl rfl ?_
  refine V.aload_n dX9_desk_70 rfl rfl ?_
  refine V.getf (v := .int (I a0 1)) dX9_desk_71 fl_X9_168 h0.1 (by decide) rfl ?_
  refine V.icmp_ge (tgt := 105) dX9_desk_74 (by decide) (fun c34 => ?_) (fun c34 => ?_)
  · have H35 := H0.1 c34
    refine V.aload_n dX9_desk_105 rfl rfl ?_
    refine V.dup dX9_desk_106 rfl ?_
    refine V.getf (v := .int (I a0 0)) dX9_desk_107 fl_X9_171 h0.1 (by decide) rfl ?_
    refine V.iconst (v := (1)) dX9_desk_110 (by decide) ?_
    refine V.iadd dX9_desk_111 ?_
    refine V.puti dX9_desk_112 fl_X9_171 fp_X9_171 (Or.inl rfl) h0.1 (by decide) rfl rfl ?_
    refine V.aload_n dX9_desk_115 rfl rfl ?_
    refine V.iconst (v := (0)) dX9_desk_116 (by decide) ?_
    refine V.puti dX9_desk_117 fl_X9_174 fp_X9_174 (Or.inl rfl) h0.1 (by decide) rfl rfl ?_
    refine V.aload_n dX9_desk_120 rfl rfl ?_
    refine V.iconst (v := (0)) dX9_desk_121 (by decide) ?_
    refine V.puti dX9_desk_122 fl_X9_120 fp_X9_120 (Or.inl rfl) h0.1 (by decide) rfl rfl ?_
    refine V.aload_n dX9_desk_125 rfl rfl ?_
    refine V.getf (v := .int ((mj_up (mj_up (mj_up I a0 0 ((I a0 0) + (1 : Int32))) a0 5 (0 : Int32)) a0 9 (0 : Int32)) a0 1)) dX9_desk_126 fl_X9_168 h0.1 (by decide) rfl ?_
    exact V.ret (v := some (.int ((mj_up (mj_up (mj_up I a0 0 ((I a0 0) + (1 : Int32))) a0 5 (0 : Int32)) a0 9 (0 : Int32)) a0 1))) rfl (Or.inl ⟨_, rfl, dX9_desk_129, _, rfl, rfl⟩) ⟨Nat.le_refl _, Nat.le_refl _⟩ H35
  · have H36 := H0.2 c34
    refine V.aload_n dX9_desk_77 rfl rfl ?_
    refine V.getf (v := .ref (a0 + 1)) dX9_desk_78 fl_X9_7 h0.1 (by decide) rfl ?_
    refine V.iload_n dX9_desk_81 rfl rfl ?_
    refine V.aload_n dX9_desk_82 rfl rfl ?_
    refine V.getf (v := .ref (a0 + 7)) dX9_desk_83 fl_X9_29 h0.1 (by decide) rfl ?_
    refine V.iload_n dX9_desk_86 rfl rfl ?_
    obtain ⟨o37, H38⟩ := H36
    refine V.bald dX9_desk_87 h0.2.2.2.2.2.2.2.1 o37 ?_
    obtain ⟨r39, I40, L41, t42, H43⟩ := H38
    refine V.cSi (N := mr_X9_kindBy) (as := [.int (I (a0 + 7) x2.toNatClampNeg)]) dX9_desk_88 ml_X9_165 ok_X9_kindBy okS_X9_kindBy ⟨Nat.le_of_ble_eq_true rfl, Nat.le_of_ble_eq_true rfl⟩ rfl rfl (Nat.le_of_ble_eq_true rfl) t42 ?_
    obtain ⟨o44, H45⟩ := H43
    refine V.iast dX9_desk_91 h0.2.1 o44 ?_
    refine V.aload_n dX9_desk_92 rfl rfl ?_
    refine V.getf (v := .ref (a0 + 3)) dX9_desk_93 fl_X9_17 h0.1 (by decide) rfl ?_
    refine V.iload_n dX9_desk_96 rfl rfl ?_
    refine V.iconst (v := (-1)) dX9_desk_97 (by decide) ?_
    obtain ⟨o46, H47⟩ := H45
    refine V.iast dX9_desk_98 h0.2.2.2.1 o46 ?_
    obtain ⟨y48, e49⟩ : ∃ y : Int32, y = x2 + 1 := ⟨_, rfl⟩
    have H50 := H47 y48 e49
    refine V.iinc (v := y48) (lo' := [(2, .int y48), (0, .ref a0)]) dX9_desk_99 rfl (by rw [e49]; rfl) (by decide) rfl ?_
    refine V.goto (tgt := 69) dX9_desk_102 (by decide) ?_
    exact V.los [1, 0] rfl H50
set_option maxRecDepth 100000 in
set_option maxHeartbeats 4000000 in
theorem wp_X9_desk {S : List mjD} {RET : Option Value → mjH → Prop} {m : Nat} (hm : is_Model S m) {I : Nat → Nat → Int32} {L : Nat → Nat → Int64} (H0 : ∃ r1 I2 L3, CTi mr_X9_within [.long ((I m 9).toInt64), .long (1 : Int64), .long (4 : Int64)] S I L r1 I2 L3 ∧ hd_X9_desk_15 S RET m r1 (0 : Int32) I2 L3) : CT mr_X9_desk (0, 0) [.ref m] (S, I, L) RET := by
  refine CT.of (lo := [(0, .ref m)]) (by decide) (fun _ _ => Nat.le_of_ble_eq_true rfl) (fun _ _ => rfl) rfl ?_
  refine V.aload_n dX9_desk_0 rfl rfl ?_
  refine V.getf (v := .int (I m 9)) dX9_desk_1 fl_X9_120 hm.1 (by decide) rfl ?_
  refine V.i2l dX9_desk_4 ?_
  refine V.lconst (v := 1) dX9_desk_5 (by decide) ?_
  refine V.ldc2 kc_X9_163 dX9_desk_6 ?_
  obtain ⟨r1, I2, L3, t4, H5⟩ := H0
  refine V.cSi (N := mr_X9_within) (as := [.long ((I m 9).toInt64), .long (1 : Int64), .long (4 : Int64)]) dX9_desk_9 ml_X9_116 ok_X9_within okS_X9_within ⟨Nat.le_of_ble_eq_true rfl, Nat.le_of_ble_eq_true rfl⟩ rfl rfl (Nat.le_of_ble_eq_true rfl) t4 ?_
  refine V.istore_n (lo' := [(1, .int r1), (0, .ref m)]) dX9_desk_12 rfl (by decide) rfl ?_
  refine V.iconst (v := (0)) dX9_desk_13 (by decide) ?_
  refine V.istore_n (lo' := [(2, .int (0 : Int32)), (1, .int r1), (0, .ref m)]) dX9_desk_14 rfl (by decide) rfl ?_
  exact V.los [2, 1, 0] rfl H5
set_option maxRecDepth 100000 in
set_option maxHeartbeats 4000000 in
theorem wp_X9_isSlot {S : List mjD} {RET : Option Value → mjH → Prop} {m : Nat} (hm : is_Model S m) {a : Int32} {I : Nat → Nat → Int32} {L : Nat → Nat → Int64} (H0 : ∃ r1 I2 L3, CTi mr_X9_within [.long a.toInt64, .long (0 : Int64), .long (((I m 1) - (1 : Int32)).toInt64)] S I L r1 I2 L3 ∧ (r1 = 0 ∨ r1 = 1) ∧ RET (some (.int r1)) (S, I2, L3)) : CT mr_X9_isSlot (0, 0) [.ref m, .int a] (S, I, L) RET := by
  refine CT.of (lo := [(0, .ref m), (1, .int a)]) (by decide) (fun _ _ => Nat.le_of_ble_eq_true rfl) (fun _ _ => rfl) rfl ?_
  refine V.iload_n dX9_isSlot_0 rfl rfl ?_
  refine V.i2l dX9_isSlot_1 ?_
  refine V.lconst (v := 0) dX9_isSlot_2 (by decide) ?_
  refine V.aload_n dX9_isSlot_3 rfl rfl ?_
  refine V.getf (v := .int (I m 1)) dX9_isSlot_4 fl_X9_168 hm.1 (by decide) rfl ?_
  refine V.iconst (v := (1)) dX9_isSlot_7 (by decide) ?_
  refine V.isub dX9_isSlot_8 ?_
  refine V.i2l dX9_isSlot_9 ?_
  obtain ⟨r1, I2, L3, t4, H5⟩ := H0
  refine V.cSi (N := mr_X9_within) (as := [.long a.toInt64, .long (0 : Int64), .long (((I m 1) - (1 : Int32)).toInt64)]) dX9_isSlot_10 ml_X9_116 ok_X9_within okS_X9_within ⟨Nat.le_of_ble_eq_true rfl, Nat.le_of_ble_eq_true rfl⟩ rfl rfl (Nat.le_of_ble_eq_true rfl) t4 ?_
  obtain ⟨o6, H7⟩ := H5
  exact V.ret (v := some (.int r1)) rfl (Or.inl ⟨_, rfl, dX9_isSlot_13, _, rfl, (mj_zn o6)⟩) ⟨Nat.le_refl _, Nat.le_refl _⟩ H7
set_option maxRecDepth 100000 in
set_option maxHeartbeats 4000000 in
theorem wp_X9_degreeNow {S : List mjD} {RET : Option Value → mjH → Prop} {m : Nat} (hm : is_Model S m) {I : Nat → Nat → Int32} {L : Nat → Nat → Int64} (H0 : ∃ r1 I2 L3, CTi mr_X9_degreeBy [.long (L (m + 10) (0 : Int32).toNatClampNeg), .long (L (m + 10) (1 : Int32).toNatClampNeg), .long (L (m + 10) (2 : Int32).toNatClampNeg), .long (L (m + 10) (3 : Int32).toNatClampNeg), .long (L (m + 10) (4 : Int32).toNatClampNeg), .long (L (m + 10) (5 : Int32).toNatClampNeg)] S I L r1 I2 L3 ∧ RET (some (.int r1)) (S, I2, L3)) : CT mr_X9_degreeNow (0, 0) [.ref m] (S, I, L) RET := by
  refine CT.of (lo := [(0, .ref m)]) (by decide) (fun _ _ => Nat.le_of_ble_eq_true rfl) (fun _ _ => rfl) rfl ?_
  refine V.aload_n dX9_degreeNow_0 rfl rfl ?_
  refine V.getf (v := .ref (m + 10)) dX9_degreeNow_1 fl_X9_39 hm.1 (by decide) rfl ?_
  refine V.iconst (v := (0)) dX9_degreeNow_4 (by decide) ?_
  refine V.lald dX9_degreeNow_5 hm.2.2.2.2.2.2.2.2.2.2.1 (mj_lit (by decide)) ?_
  refine V.aload_n dX9_degreeNow_6 rfl rfl ?_
  refine V.getf (v := .ref (m + 10)) dX9_degreeNow_7 fl_X9_39 hm.1 (by decide) rfl ?_
  refine V.iconst (v := (1)) dX9_degreeNow_10 (by decide) ?_
  refine V.lald dX9_degreeNow_11 hm.2.2.2.2.2.2.2.2.2.2.1 (mj_lit (by decide)) ?_
  refine V.aload_n dX9_degreeNow_12 rfl rfl ?_
  refine V.getf (v := .ref (m + 10)) dX9_degreeNow_13 fl_X9_39 hm.1 (by decide) rfl ?_
  refine V.iconst (v := (2)) dX9_degreeNow_16 (by decide) ?_
  refine V.lald dX9_degreeNow_17 hm.2.2.2.2.2.2.2.2.2.2.1 (mj_lit (by decide)) ?_
  refine V.aload_n dX9_degreeNow_18 rfl rfl ?_
  refine V.getf (v := .ref (m + 10)) dX9_degreeNow_19 fl_X9_39 hm.1 (by decide) rfl ?_
  refine V.iconst (v := (3)) dX9_degreeNow_22 (by decide) ?_
  refine V.lald dX9_degreeNow_23 hm.2.2.2.2.2.2.2.2.2.2.1 (mj_lit (by decide)) ?_
  refine V.aload_n dX9_degreeNow_24 rfl rfl ?_
  refine V.getf (v := .ref (m + 10)) dX9_degreeNow_25 fl_X9_39 hm.1 (by decide) rfl ?_
  refine V.iconst (v := (4)) dX9_degreeNow_28 (by decide) ?_
  refine V.lald dX9_degreeNow_29 hm.2.2.2.2.2.2.2.2.2.2.1 (mj_lit (by decide)) ?_
  refine V.aload_n dX9_degreeNow_30 rfl rfl ?_
  refine V.getf (v := .ref (m + 10)) dX9_degreeNow_31 fl_X9_39 hm.1 (by decide) rfl ?_
  refine V.iconst (v := (5)) dX9_degreeNow_34 (by decide) ?_
  refine V.lald dX9_degreeNow_35 hm.2.2.2.2.2.2.2.2.2.2.1 (mj_lit (by decide)) ?_
  obtain ⟨r1, I2, L3, t4, H5⟩ := H0
  refine V.cSi (N := mr_X9_degreeBy) (as := [.long (L (m + 10) (0 : Int32).toNatClampNeg), .long (L (m + 10) (1 : Int32).toNatClampNeg), .long (L (m + 10) (2 : Int32).toNatClampNeg), .long (L (m + 10) (3 : Int32).toNatClampNeg), .long (L (m + 10) (4 : Int32).toNatClampNeg), .long (L (m + 10) (5 : Int32).toNatClampNeg)]) dX9_degreeNow_36 ml_X9_181 ok_X9_degreeBy okS_X9_degreeBy ⟨Nat.le_of_ble_eq_true rfl, Nat.le_of_ble_eq_true rfl⟩ rfl rfl (Nat.le_of_ble_eq_true rfl) t4 ?_
  exact V.ret (v := some (.int r1)) rfl (Or.inl ⟨_, rfl, dX9_degreeNow_39, _, rfl, rfl⟩) ⟨Nat.le_refl _, Nat.le_refl _⟩ H5
set_option maxRecDepth 100000 in
set_option maxHeartbeats 4000000 in
theorem wp_X9_tries {S : List mjD} {RET : Option Value → mjH → Prop} {m : Nat} (hm : is_Model S m) {I : Nat → Nat → Int32} {L : Nat → Nat → Int64} (H0 : ∃ r1 I2 L3, CTi mr_X9_divides [.ref m] S I L r1 I2 L3 ∧ ((¬ r1 = 0 → ∃ I9 L10, CTv mr_X9_addFactor [.ref m] S I2 L3 I9 L10 ∧ ∃ I14 L15, CTv mr_X9_takeQuotient [.ref m] S I9 L10 I14 L15 ∧ RET (some (.int (1 : Int32))) (S, I14, L15)) ∧ (r1 = 0 → RET (some (.int (0 : Int32))) (S, I2, L3)))) : CT mr_X9_tries (0, 0) [.ref m] (S, I, L) RET := by
  refine CT.of (lo := [(0, .ref m)]) (by decide) (fun _ _ => Nat.le_of_ble_eq_true rfl) (fun _ _ => rfl) rfl ?_
  refine V.aload_n dX9_tries_0 rfl rfl ?_
  obtain ⟨r1, I2, L3, t4, H5⟩ := H0
  refine V.cVi (N := mr_X9_divides) (as := []) dX9_tries_1 ml_X9_197 ok_X9_divides okV_X9_divides ⟨Nat.le_of_ble_eq_true rfl, Nat.le_of_ble_eq_true rfl⟩ hm.1 rfl rfl rfl (Nat.le_of_ble_eq_true rfl) t4 ?_
  refine V.if_ne (tgt := 9) dX9_tries_4 (by decide) (fun c6 => ?_) (fun c6 => ?_)
  · have H7 := H5.1 c6
    refine V.aload_n dX9_tries_9 rfl rfl ?_
    obtain ⟨I9, L10, t11, H12⟩ := H7
    refine V.cVv (N := mr_X9_addFactor) (as := []) dX9_tries_10 ml_X9_201 ok_X9_addFactor okV_X9_addFactor ⟨Nat.le_of_ble_eq_true rfl, Nat.le_of_ble_eq_true rfl⟩ hm.1 rfl rfl rfl (Nat.le_of_ble_eq_true rfl) t11 ?_
    refine V.aload_n dX9_tries_13 rfl rfl ?_
    obtain ⟨I14, L15, t16, H17⟩ := H12
    refine V.cVv (N := mr_X9_takeQuotient) (as := []) dX9_tries_14 ml_X9_204 ok_X9_takeQuotient okV_X9_takeQuotient ⟨Nat.le_of_ble_eq_true rfl, Nat.le_of_ble_eq_true rfl⟩ hm.1 rfl rfl rfl (Nat.le_of_ble_eq_true rfl) t16 ?_
    refine V.iconst (v := (1)) dX9_tries_17 (by decide) ?_
    exact V.ret (v := some (.int (1 : Int32))) rfl (Or.inl ⟨_, rfl, dX9_tries_18, _, rfl, (by decide)⟩) ⟨Nat.le_refl _, Nat.le_refl _⟩ H17
  · have H18 := H5.2 c6
    refine V.iconst (v := (0)) dX9_tries_7 (by decide) ?_
    exact V.ret (v := some (.int (0 : Int32))) rfl (Or.inl ⟨_, rfl, dX9_tries_8, _, rfl, (by decide)⟩) ⟨Nat.le_refl _, Nat.le_refl _⟩ H18
set_option maxRecDepth 100000 in
set_option maxHeartbeats 4000000 in
theorem wp_X9_isFilled {S : List mjD} {RET : Option Value → mjH → Prop} {m : Nat} (hm : is_Model S m) {a : Int32} {I : Nat → Nat → Int32} {L : Nat → Nat → Int64} (H0 : ∃ r1 I2 L3, CTi mr_X9_isSlot [.ref m, .int a] S I L r1 I2 L3 ∧ ((r1 = 0 → RET (some (.int (0 : Int32))) (S, I2, L3)) ∧ (¬ r1 = 0 → (vp_in a 4) ∧ (((I2 (m + 3) a.toNatClampNeg) < 0 → RET (some (.int (0 : Int32))) (S, I2, L3)) ∧ (¬ (I2 (m + 3) a.toNatClampNeg) < 0 → RET (some (.int (1 : Int32))) (S, I2, L3)))))) : CT mr_X9_isFilled (0, 0) [.ref m, .int a] (S, I, L) RET := by
  refine CT.of (lo := [(0, .ref m), (1, .int a)]) (by decide) (fun _ _ => Nat.le_of_ble_eq_true rfl) (fun _ _ => rfl) rfl ?_
  refine V.aload_n dX9_isFilled_0 rfl rfl ?_
  refine V.iload_n dX9_isFilled_1 rfl rfl ?_
  obtain ⟨r1, I2, L3, t4, H5⟩ := H0
  refine V.cVi (N := mr_X9_isSlot) (as := [.int a]) dX9_isFilled_2 ml_X9_177 ok_X9_isSlot okV_X9_isSlot ⟨Nat.le_of_ble_eq_true rfl, Nat.le_of_ble_eq_true rfl⟩ hm.1 rfl rfl rfl (Nat.le_of_ble_eq_true rfl) t4 ?_
  refine V.if_eq (tgt := 21) dX9_isFilled_5 (by decide) (fun c6 => ?_) (fun c6 => ?_)
  · have H7 := H5.1 c6
    refine V.iconst (v := (0)) dX9_isFilled_21 (by decide) ?_
    exact V.ret (v := some (.int (0 : Int32))) rfl (Or.inl ⟨_, rfl, dX9_isFilled_22, _, rfl, (by decide)⟩) ⟨Nat.le_refl _, Nat.le_refl _⟩ H7
  · have H8 := H5.2 c6
    refine V.aload_n dX9_isFilled_8 rfl rfl ?_
    refine V.getf (v := .ref (m + 3)) dX9_isFilled_9 fl_X9_17 hm.1 (by decide) rfl ?_
    refine V.iload_n dX9_isFilled_12 rfl rfl ?_
    obtain ⟨o9, H10⟩ := H8
    refine V.iald dX9_isFilled_13 hm.2.2.2.1 o9 ?_
    refine V.if_lt (tgt := 21) dX9_isFilled_14 (by decide) (fun c11 => ?_) (fun c11 => ?_)
    · have H12 := H10.1 c11
      refine V.iconst (v := (0)) dX9_isFilled_21 (by decide) ?_
      exact V.ret (v := some (.int (0 : Int32))) rfl (Or.inl ⟨_, rfl, dX9_isFilled_22, _, rfl, (by decide)⟩) ⟨Nat.le_refl _, Nat.le_refl _⟩ H12
    · have H13 := H10.2 c11
      refine V.iconst (v := (1)) dX9_isFilled_17 (by decide) ?_
      refine V.goto (tgt := 22) dX9_isFilled_18 (by decide) ?_
      exact V.ret (v := some (.int (1 : Int32))) rfl (Or.inl ⟨_, rfl, dX9_isFilled_22, _, rfl, (by decide)⟩) ⟨Nat.le_refl _, Nat.le_refl _⟩ H13
set_option maxRecDepth 100000 in
set_option maxHeartbeats 4000000 in
theorem wp_X9_as {S : List mjD} {RET : Option Value → mjH → Prop} {m : Nat} (hm : is_Model S m) {a : Int32} {b : Int32} {I : Nat → Nat → Int32} {L : Nat → Nat → Int64} (H0 : ∃ r1 I2 L3, CTi mr_X9_isSlot [.ref m, .int a] S I L r1 I2 L3 ∧ ((¬ r1 = 0 → ∃ r8 I9 L10, CTi mr_X9_within [.long b.toInt64, .long (0 : Int64), .long (4 : Int64)] S I2 L3 r8 I9 L10 ∧ ((¬ r8 = 0 → (vp_in a 4) ∧ ∀ y17 : Int32, y17 = (I9 (m + 1) a.toNatClampNeg) → ((b = 0 → RET (some (.int a)) (S, I9, L10)) ∧ (¬ b = 0 → ((y17 = b → RET (some (.int a)) (S, I9, L10)) ∧ (¬ y17 = b → ((¬ b = (1 : Int32) → RET (some (.int (-1 : Int32))) (S, I9, L10)) ∧ (b = (1 : Int32) → ((¬ y17 = (2 : Int32) → RET (some (.int (-1 : Int32))) (S, I9, L10)) ∧ (y17 = (2 : Int32) → RET (some (.int a)) (S, I9, L10)))))))))) ∧ (r8 = 0 → RET (some (.int (-102 : Int32))) (S, I9, L10)))) ∧ (r1 = 0 → RET (some (.int (-101 : Int32))) (S, I2, L3)))) : CT mr_X9_as (0, 0) [.ref m, .int a, .int b] (S, I, L) RET := by
  refine CT.of (lo := [(0, .ref m), (1, .int a), (2, .int b)]) (by decide) (fun _ _ => Nat.le_of_ble_eq_true rfl) (fun _ _ => rfl) rfl ?_
  refine V.aload_n dX9_as_0 rfl rfl ?_
  refine V.iload_n dX9_as_1 rfl rfl ?_
  obtain ⟨r1, I2, L3, t4, H5⟩ := H0
  refine V.cVi (N := mr_X9_isSlot) (as := [.int a]) dX9_as_2 ml_X9_177 ok_X9_isSlot okV_X9_isSlot ⟨Nat.le_of_ble_eq_true rfl, Nat.le_of_ble_eq_true rfl⟩ hm.1 rfl rfl rfl (Nat.le_of_ble_eq_true rfl) t4 ?_
  refine V.if_ne (tgt := 11) dX9_as_5 (by decide) (fun c6 => ?_) (fun c6 => ?_)
  · have H7 := H5.1 c6
    refine V.iload_n dX9_as_11 rfl rfl ?_
    refine V.i2l dX9_as_12 ?_
    refine V.lconst (v := 0) dX9_as_13 (by decide) ?_
    refine V.ldc2 kc_X9_163 dX9_as_14 ?_
    obtain ⟨r8, I9, L10, t11, H12⟩ := H7
    refine V.cSi (N := mr_X9_within) (as := [.long b.toInt64, .long (0 : Int64), .long (4 : Int64)]) dX9_as_17 ml_X9_116 ok_X9_within okS_X9_within ⟨Nat.le_of_ble_eq_true rfl, Nat.le_of_ble_eq_true rfl⟩ rfl rfl (Nat.le_of_ble_eq_true rfl) t11 ?_
    refine V.if_ne (tgt := 26) dX9_as_20 (by decide) (fun c13 => ?_) (fun c13 => ?_)
    · have H14 := H12.1 c13
      refine V.aload_n dX9_as_26 rfl rfl ?_
      refine V.getf (v := .ref (m + 1)) dX9_as_27 fl_X9_7 hm.1 (by decide) rfl ?_
      refine V.iload_n dX9_as_30 rfl rfl ?_
      obtain ⟨o15, H16⟩ := H14
      refine V.iald dX9_as_31 hm.2.1 o15 ?_
      refine V.topi (fun y17 e18 => ?_)
      have H19 := H16 y17 e18
      refine V.istore_n (lo' := [(3, .int y17), (0, .ref m), (1, .int a), (2, .int b)]) dX9_as_32 rfl (by decide) rfl ?_
      refine V.iload_n dX9_as_33 rfl rfl ?_
      refine V.if_eq (tgt := 52) dX9_as_34 (by decide) (fun c20 => ?_) (fun c20 => ?_)
      · have H21 := H19.1 c20
        refine V.iload_n dX9_as_52 rfl rfl ?_
        refine V.goto (tgt := 57) dX9_as_53 (by decide) ?_
        exact V.ret (v := some (.int a)) rfl (Or.inl ⟨_, rfl, dX9_as_57, _, rfl, rfl⟩) ⟨Nat.le_refl _, Nat.le_refl _⟩ H21
      · have H22 := H19.2 c20
        refine V.iload_n dX9_as_37 rfl rfl ?_
        refine V.iload_n dX9_as_38 rfl rfl ?_
        refine V.icmp_eq (tgt := 52) dX9_as_39 (by decide) (fun c23 => ?_) (fun c23 => ?_)
        · have H24 := H22.1 c23
          refine V.iload_n dX9_as_52 rfl rfl ?_
          refine V.goto (tgt := 57) dX9_as_53 (by decide) ?_
          exact V.ret (v := some (.int a)) rfl (Or.inl ⟨_, rfl, dX9_as_57, _, rfl, rfl⟩) ⟨Nat.le_refl _, Nat.le_refl _⟩ H24
        · have H25 := H22.2 c23
          refine V.iload_n dX9_as_42 rfl rfl ?_
          refine V.iconst (v := (1)) dX9_as_43 (by decide) ?_
          refine V.icmp_ne (tgt := 56) dX9_as_44 (by decide) (fun c26 => ?_) (fun c26 => ?_)
          · have H27 := H25.1 c26
            refine V.iconst (v := (-1)) dX9_as_56 (by decide) ?_
            exact V.ret (v := some (.int (-1 : Int32))) rfl (Or.inl ⟨_, rfl, dX9_as_57, _, rfl, rfl⟩) ⟨Nat.le_refl _, Nat.le_refl _⟩ H27
          · have H28 := H25.2 c26
            refine V.iload_n dX9_as_47 rfl rfl ?_
            refine V.iconst (v := (2)) dX9_as_48 (by decide) ?_
            refine V.icmp_ne (tgt := 56) dX9_as_49 (by decide) (fun c29 => ?_) (fun c29 => ?_)
            · have H30 := H28.1 c29
              refine V.iconst (v := (-1)) dX9_as_56 (by decide) ?_
              exact V.ret (v := some (.int (-1 : Int32))) rfl (Or.inl ⟨_, rfl, dX9_as_57, _, rfl, rfl⟩) ⟨Nat.le_refl _, Nat.le_refl _⟩ H30
            · have H31 := H28.2 c29
              refine V.iload_n dX9_as_52 rfl rfl ?_
              refine V.goto (tgt := 57) dX9_as_53 (by decide) ?_
              exact V.ret (v := some (.int a)) rfl (Or.inl ⟨_, rfl, dX9_as_57, _, rfl, rfl⟩) ⟨Nat.le_refl _, Nat.le_refl _⟩ H31
    · have H32 := H12.2 c13
      refine V.bipush (v := (-102)) dX9_as_23 (by decide) ?_
      exact V.ret (v := some (.int (-102 : Int32))) rfl (Or.inl ⟨_, rfl, dX9_as_25, _, rfl, rfl⟩) ⟨Nat.le_refl _, Nat.le_refl _⟩ H32
  · have H33 := H5.2 c6
    refine V.bipush (v := (-101)) dX9_as_8 (by decide) ?_
    exact V.ret (v := some (.int (-101 : Int32))) rfl (Or.inl ⟨_, rfl, dX9_as_10, _, rfl, rfl⟩) ⟨Nat.le_refl _, Nat.le_refl _⟩ H33
set_option maxRecDepth 100000 in
set_option maxHeartbeats 4000000 in
theorem wp_X9_be {S : List mjD} {RET : Option Value → mjH → Prop} {m : Nat} (hm : is_Model S m) {a : Int32} {b : Int32} {I : Nat → Nat → Int32} {L : Nat → Nat → Int64} (H0 : ∃ r1 I2 L3, CTi mr_X9_isSlot [.ref m, .int a] S I L r1 I2 L3 ∧ ((¬ r1 = 0 → ∃ r8 I9 L10, CTi mr_X9_within [.long b.toInt64, .long (0 : Int64), .long (4 : Int64)] S I2 L3 r8 I9 L10 ∧ ((¬ r8 = 0 → (vp_in a 4) ∧ ∀ y17 : Int32, y17 = (I9 (m + 1) a.toNatClampNeg) → (vp_in a 4) ∧ RET (some (.int y17)) (S, mj_up I9 (m + 1) a.toNatClampNeg b, L10)) ∧ (r8 = 0 → RET (some (.int (-102 : Int32))) (S, I9, L10)))) ∧ (r1 = 0 → RET (some (.int (-101 : Int32))) (S, I2, L3)))) : CT mr_X9_be (0, 0) [.ref m, .int a, .int b] (S, I, L) RET := by
  refine CT.of (lo := [(0, .ref m), (1, .int a), (2, .int b)]) (by decide) (fun _ _ => Nat.le_of_ble_eq_true rfl) (fun _ _ => rfl) rfl ?_
  refine V.aload_n dX9_be_0 rfl rfl ?_
  refine V.iload_n dX9_be_1 rfl rfl ?_
  obtain ⟨r1, I2, L3, t4, H5⟩ := H0
  refine V.cVi (N := mr_X9_isSlot) (as := [.int a]) dX9_be_2 ml_X9_177 ok_X9_isSlot okV_X9_isSlot ⟨Nat.le_of_ble_eq_true rfl, Nat.le_of_ble_eq_true rfl⟩ hm.1 rfl rfl rfl (Nat.le_of_ble_eq_true rfl) t4 ?_
  refine V.if_ne (tgt := 11) dX9_be_5 (by decide) (fun c6 => ?_) (fun c6 => ?_)
  · have H7 := H5.1 c6
    refine V.iload_n dX9_be_11 rfl rfl ?_
    refine V.i2l dX9_be_12 ?_
    refine V.lconst (v := 0) dX9_be_13 (by decide) ?_
    refine V.ldc2 kc_X9_163 dX9_be_14 ?_
    obtain ⟨r8, I9, L10, t11, H12⟩ := H7
    refine V.cSi (N := mr_X9_within) (as := [.long b.toInt64, .long (0 : Int64), .long (4 : Int64)]) dX9_be_17 ml_X9_116 ok_X9_within okS_X9_within ⟨Nat.le_of_ble_eq_true rfl, Nat.le_of_ble_eq_true rfl⟩ rfl rfl (Nat.le_of_ble_eq_true rfl) t11 ?_
    refine V.if_ne (tgt := 26) dX9_be_20 (by decide) (fun c13 => ?_) (fun c13 => ?_)
    · have H14 := H12.1 c13
      refine V.aload_n dX9_be_26 rfl rfl ?_
      refine V.getf (v := .ref (m + 1)) dX9_be_27 fl_X9_7 hm.1 (by decide) rfl ?_
      refine V.iload_n dX9_be_30 rfl rfl ?_
      obtain ⟨o15, H16⟩ := H14
      refine V.iald dX9_be_31 hm.2.1 o15 ?_
      refine V.topi (fun y17 e18 => ?_)
      have H19 := H16 y17 e18
      refine V.istore_n (lo' := [(3, .int y17), (0, .ref m), (1, .int a), (2, .int b)]) dX9_be_32 rfl (by decide) rfl ?_
      refine V.aload_n dX9_be_33 rfl rfl ?_
      refine V.getf (v := .ref (m + 1)) dX9_be_34 fl_X9_7 hm.1 (by decide) rfl ?_
      refine V.iload_n dX9_be_37 rfl rfl ?_
      refine V.iload_n dX9_be_38 rfl rfl ?_
      obtain ⟨o20, H21⟩ := H19
      refine V.iast dX9_be_39 hm.2.1 o20 ?_
      refine V.iload_n dX9_be_40 rfl rfl ?_
      exact V.ret (v := some (.int y17)) rfl (Or.inl ⟨_, rfl, dX9_be_41, _, rfl, rfl⟩) ⟨Nat.le_refl _, Nat.le_refl _⟩ H21
    · have H22 := H12.2 c13
      refine V.bipush (v := (-102)) dX9_be_23 (by decide) ?_
      exact V.ret (v := some (.int (-102 : Int32))) rfl (Or.inl ⟨_, rfl, dX9_be_25, _, rfl, rfl⟩) ⟨Nat.le_refl _, Nat.le_refl _⟩ H22
  · have H23 := H5.2 c6
    refine V.bipush (v := (-101)) dX9_be_8 (by decide) ?_
    exact V.ret (v := some (.int (-101 : Int32))) rfl (Or.inl ⟨_, rfl, dX9_be_10, _, rfl, rfl⟩) ⟨Nat.le_refl _, Nat.le_refl _⟩ H23
set_option maxRecDepth 100000 in
set_option maxHeartbeats 4000000 in
theorem wp_X9_see {S : List mjD} {RET : Option Value → mjH → Prop} {m : Nat} (hm : is_Model S m) {a : Int32} {b : Int32} {c : Int32} {I : Nat → Nat → Int32} {L : Nat → Nat → Int64} (H0 : ∃ r1 I2 L3, CTi mr_X9_isSlot [.ref m, .int a] S I L r1 I2 L3 ∧ ((¬ r1 = 0 → ∃ r8 I9 L10, CTi mr_X9_within [.long b.toInt64, .long (0 : Int64), .long (3 : Int64)] S I2 L3 r8 I9 L10 ∧ ((¬ r8 = 0 → ((¬ (I9 m 5) = (6 : Int32) → (vp_in (I9 m 5) 6) ∧ (vp_in ((mj_up I9 (m + 4) (I9 m 5).toNatClampNeg a) m 5) 6) ∧ ((c = 0 → (vp_in ((mj_up (mj_up I9 (m + 4) (I9 m 5).toNatClampNeg a) (m + 5) ((mj_up I9 (m + 4) (I9 m 5).toNatClampNeg a) m 5).toNatClampNeg b) m 5) 6) ∧ RET (some (.int ((mj_up (mj_up (mj_up (mj_up I9 (m + 4) (I9 m 5).toNatClampNeg a) (m + 5) ((mj_up I9 (m + 4) (I9 m 5).toNatClampNeg a) m 5).toNatClampNeg b) (m + 6) ((mj_up (mj_up I9 (m + 4) (I9 m 5).toNatClampNeg a) (m + 5) ((mj_up I9 (m + 4) (I9 m 5).toNatClampNeg a) m 5).toNatClampNeg b) m 5).toNatClampNeg (0 : Int32)) m 5 (((mj_up (mj_up (mj_up I9 (m + 4) (I9 m 5).toNatClampNeg a) (m + 5) ((mj_up I9 (m + 4) (I9 m 5).toNatClampNeg a) m 5).toNatClampNeg b) (m + 6) ((mj_up (mj_up I9 (m + 4) (I9 m 5).toNatClampNeg a) (m + 5) ((mj_up I9 (m + 4) (I9 m 5).toNatClampNeg a) m 5).toNatClampNeg b) m 5).toNatClampNeg (0 : Int32)) m 5) + (1 : Int32))) m 5))) (S, mj_up (mj_up (mj_up (mj_up I9 (m + 4) (I9 m 5).toNatClampNeg a) (m + 5) ((mj_up I9 (m + 4) (I9 m 5).toNatClampNeg a) m 5).toNatClampNeg b) (m + 6) ((mj_up (mj_up I9 (m + 4) (I9 m 5).toNatClampNeg a) (m + 5) ((mj_up I9 (m + 4) (I9 m 5).toNatClampNeg a) m 5).toNatClampNeg b) m 5).toNatClampNeg (0 : Int32)) m 5 (((mj_up (mj_up (mj_up I9 (m + 4) (I9 m 5).toNatClampNeg a) (m + 5) ((mj_up I9 (m + 4) (I9 m 5).toNatClampNeg a) m 5).toNatClampNeg b) (m + 6) ((mj_up (mj_up I9 (m + 4) (I9 m 5).toNatClampNeg a) (m + 5) ((mj_up I9 (m + 4) (I9 m 5).toNatClampNeg a) m 5).toNatClampNeg b) m 5).toNatClampNeg (0 : Int32)) m 5) + (1 : Int32)), L10)) ∧ (¬ c = 0 → (vp_in ((mj_up (mj_up I9 (m + 4) (I9 m 5).toNatClampNeg a) (m + 5) ((mj_up I9 (m + 4) (I9 m 5).toNatClampNeg a) m 5).toNatClampNeg b) m 5) 6) ∧ RET (some (.int ((mj_up (mj_up (mj_up (mj_up I9 (m + 4) (I9 m 5).toNatClampNeg a) (m + 5) ((mj_up I9 (m + 4) (I9 m 5).toNatClampNeg a) m 5).toNatClampNeg b) (m + 6) ((mj_up (mj_up I9 (m + 4) (I9 m 5).toNatClampNeg a) (m + 5) ((mj_up I9 (m + 4) (I9 m 5).toNatClampNeg a) m 5).toNatClampNeg b) m 5).toNatClampNeg (1 : Int32)) m 5 (((mj_up (mj_up (mj_up I9 (m + 4) (I9 m 5).toNatClampNeg a) (m + 5) ((mj_up I9 (m + 4) (I9 m 5).toNatClampNeg a) m 5).toNatClampNeg b) (m + 6) ((mj_up (mj_up I9 (m + 4) (I9 m 5).toNatClampNeg a) (m + 5) ((mj_up I9 (m + 4) (I9 m 5).toNatClampNeg a) m 5).toNatClampNeg b) m 5).toNatClampNeg (1 : Int32)) m 5) + (1 : Int32))) m 5))) (S, mj_up (mj_up (mj_up (mj_up I9 (m + 4) (I9 m 5).toNatClampNeg a) (m + 5) ((mj_up I9 (m + 4) (I9 m 5).toNatClampNeg a) m 5).toNatClampNeg b) (m + 6) ((mj_up (mj_up I9 (m + 4) (I9 m 5).toNatClampNeg a) (m + 5) ((mj_up I9 (m + 4) (I9 m 5).toNatClampNeg a) m 5).toNatClampNeg b) m 5).toNatClampNeg (1 : Int32)) m 5 (((mj_up (mj_up (mj_up I9 (m + 4) (I9 m 5).toNatClampNeg a) (m + 5) ((mj_up I9 (m + 4) (I9 m 5).toNatClampNeg a) m 5).toNatClampNeg b) (m + 6) ((mj_up (mj_up I9 (m + 4) (I9 m 5).toNatClampNeg a) (m + 5) ((mj_up I9 (m + 4) (I9 m 5).toNatClampNeg a) m 5).toNatClampNeg b) m 5).toNatClampNeg (1 : Int32)) m 5) + (1 : Int32)), L10)))) ∧ ((I9 m 5) = (6 : Int32) → RET (some (.int (-104 : Int32))) (S, I9, L10)))) ∧ (r8 = 0 → RET (some (.int (-102 : Int32))) (S, I9, L10)))) ∧ (r1 = 0 → RET (some (.int (-101 : Int32))) (S, I2, L3)))) : CT mr_X9_see (0, 0) [.ref m, .int a, .int b, .int c] (S, I, L) RET := by
  refine CT.of (lo := [(0, .ref m), (1, .int a), (2, .int b), (3, .int c)]) (by decide) (fun _ _ => Nat.le_of_ble_eq_true rfl) (fun _ _ => rfl) rfl ?_
  refine V.aload_n dX9_see_0 rfl rfl ?_
  refine V.iload_n dX9_see_1 rfl rfl ?_
  obtain ⟨r1, I2, L3, t4, H5⟩ := H0
  refine V.cVi (N := mr_X9_isSlot) (as := [.int a]) dX9_see_2 ml_X9_177 ok_X9_isSlot okV_X9_isSlot ⟨Nat.le_of_ble_eq_true rfl, Nat.le_of_ble_eq_true rfl⟩ hm.1 rfl rfl rfl (Nat.le_of_ble_eq_true rfl) t4 ?_
  refine V.if_ne (tgt := 11) dX9_see_5 (by decide) (fun c6 => ?_) (fun c6 => ?_)
  · have H7 := H5.1 c6
    refine V.iload_n dX9_see_11 rfl rfl ?_
    refine V.i2l dX9_see_12 ?_
    refine V.lconst (v := 0) dX9_see_13 (by decide) ?_
    refine V.ldc2 kc_X9_396 dX9_see_14 ?_
    obtain ⟨r8, I9, L10, t11, H12⟩ := H7
    refine V.cSi (N := mr_X9_within) (as := [.long b.toInt64, .long (0 : Int64), .long (3 : Int64)]) dX9_see_17 ml_X9_116 ok_X9_within okS_X9_within ⟨Nat.le_of_ble_eq_true rfl, Nat.le_of_ble_eq_true rfl⟩ rfl rfl (Nat.le_of_ble_eq_true rfl) t11 ?_
    refine V.if_ne (tgt := 26) dX9_see_20 (by decide) (fun c13 => ?_) (fun c13 => ?_)
    · have H14 := H12.1 c13
      refine V.aload_n dX9_see_26 rfl rfl ?_
      refine V.getf (v := .int (I9 m 5)) dX9_see_27 fl_X9_174 hm.1 (by decide) rfl ?_
      refine V.bipush (v := (6)) dX9_see_30 (by decide) ?_
      refine V.icmp_ne (tgt := 38) dX9_see_32 (by decide) (fun c15 => ?_) (fun c15 => ?_)
      · have H16 := H14.1 c15
        refine V.aload_n dX9_see_38 rfl rfl ?_
        refine V.getf (v := .ref (m + 4)) dX9_see_39 fl_X9_20 hm.1 (by decide) rfl ?_
        refine V.aload_n dX9_see_42 rfl rfl ?_
        refine V.getf (v := .int (I9 m 5)) dX9_see_43 fl_X9_174 hm.1 (by decide) rfl ?_
        refine V.iload_n dX9_see_46 rfl rfl ?_
        obtain ⟨o17, H18⟩ := H16
        refine V.iast dX9_see_47 hm.2.2.2.2.1 o17 ?_
        refine V.aload_n dX9_see_48 rfl rfl ?_
        refine V.getf (v := .ref (m + 5)) dX9_see_49 fl_X9_23 hm.1 (by decide) rfl ?_
        refine V.aload_n dX9_see_52 rfl rfl ?_
        refine V.getf (v := .int ((mj_up I9 (m + 4) (I9 m 5).toNatClampNeg a) m 5)) dX9_see_53 fl_X9_174 hm.1 (by decide) rfl ?_
        refine V.iload_n dX9_see_56 rfl rfl ?_
        obtain ⟨o19, H20⟩ := H18
        refine V.iast dX9_see_57 hm.2.2.2.2.2.1 o19 ?_
        refine V.aload_n dX9_see_58 rfl rfl ?_
        refine V.getf (v := .ref (m + 6)) dX9_see_59 fl_X9_26 hm.1 (by decide) rfl ?_
        refine V.aload_n dX9_see_62 rfl rfl ?_
        refine V.getf (v := .int ((mj_up (mj_up I9 (m + 4) (I9 m 5).toNatClampNeg a) (m + 5) ((mj_up I9 (m + 4) (I9 m 5).toNatClampNeg a) m 5).toNatClampNeg b) m 5)) dX9_see_63 fl_X9_174 hm.1 (by decide) rfl ?_
        refine V.iload_n dX9_see_66 rfl rfl ?_
        refine V.if_eq (tgt := 74) dX9_see_67 (by decide) (fun c21 => ?_) (fun c21 => ?_)
        · have H22 := H20.1 c21
          refine V.iconst (v := (0)) dX9_see_74 (by decide) ?_
          obtain ⟨o23, H24⟩ := H22
          refine V.iast dX9_see_75 hm.2.2.2.2.2.2.1 o23 ?_
          refine V.aload_n dX9_see_76 rfl rfl ?_
          refine V.dup dX9_see_77 rfl ?_
          refine V.getf (v := .int ((mj_up (mj_up (mj_up I9 (m + 4) (I9 m 5).toNatClampNeg a) (m + 5) ((mj_up I9 (m + 4) (I9 m 5).toNatClampNeg a) m 5).toNatClampNeg b) (m + 6) ((mj_up (mj_up I9 (m + 4) (I9 m 5).toNatClampNeg a) (m + 5) ((mj_up I9 (m + 4) (I9 m 5).toNatClampNeg a) m 5).toNatClampNeg b) m 5).toNatClampNeg (0 : Int32)) m 5)) dX9_see_78 fl_X9_174 hm.1 (by decide) rfl ?_
          refine V.iconst (v := (1)) dX9_see_81 (by decide) ?_
          refine V.iadd dX9_see_82 ?_
          refine V.puti dX9_see_83 fl_X9_174 fp_X9_174 (Or.inl rfl) hm.1 (by decide) rfl rfl ?_
          refine V.aload_n dX9_see_86 rfl rfl ?_
          refine V.getf (v := .int ((mj_up (mj_up (mj_up (mj_up I9 (m + 4) (I9 m 5).toNatClampNeg a) (m + 5) ((mj_up I9 (m + 4) (I9 m 5).toNatClampNeg a) m 5).toNatClampNeg b) (m + 6) ((mj_up (mj_up I9 (m + 4) (I9 m 5).toNatClampNeg a) (m + 5) ((mj_up I9 (m + 4) (I9 m 5).toNatClampNeg a) m 5).toNatClampNeg b) m 5).toNatClampNeg (0 : Int32)) m 5 (((mj_up (mj_up (mj_up I9 (m + 4) (I9 m 5).toNatClampNeg a) (m + 5) ((mj_up I9 (m + 4) (I9 m 5).toNatClampNeg a) m 5).toNatClampNeg b) (m + 6) ((mj_up (mj_up I9 (m + 4) (I9 m 5).toNatClampNeg a) (m + 5) ((mj_up I9 (m + 4) (I9 m 5).toNatClampNeg a) m 5).toNatClampNeg b) m 5).toNatClampNeg (0 : Int32)) m 5) + (1 : Int32))) m 5)) dX9_see_87 fl_X9_174 hm.1 (by decide) rfl ?_
          exact V.ret (v := some (.int ((mj_up (mj_up (mj_up (mj_up I9 (m + 4) (I9 m 5).toNatClampNeg a) (m + 5) ((mj_up I9 (m + 4) (I9 m 5).toNatClampNeg a) m 5).toNatClampNeg b) (m + 6) ((mj_up (mj_up I9 (m + 4) (I9 m 5).toNatClampNeg a) (m + 5) ((mj_up I9 (m + 4) (I9 m 5).toNatClampNeg a) m 5).toNatClampNeg b) m 5).toNatClampNeg (0 : Int32)) m 5 (((mj_up (mj_up (mj_up I9 (m + 4) (I9 m 5).toNatClampNeg a) (m + 5) ((mj_up I9 (m + 4) (I9 m 5).toNatClampNeg a) m 5).toNatClampNeg b) (m + 6) ((mj_up (mj_up I9 (m + 4) (I9 m 5).toNatClampNeg a) (m + 5) ((mj_up I9 (m + 4) (I9 m 5).toNatClampNeg a) m 5).toNatClampNeg b) m 5).toNatClampNeg (0 : Int32)) m 5) + (1 : Int32))) m 5))) rfl (Or.inl ⟨_, rfl, dX9_see_90, _, rfl, rfl⟩) ⟨Nat.le_refl _, Nat.le_refl _⟩ H24
        · have H25 := H20.2 c21
          refine V.iconst (v := (1)) dX9_see_70 (by decide) ?_
          refine V.goto (tgt := 75) dX9_see_71 (by decide) ?_
          obtain ⟨o26, H27⟩ := H25
          refine V.iast dX9_see_75 hm.2.2.2.2.2.2.1 o26 ?_
          refine V.aload_n dX9_see_76 rfl rfl ?_
          refine V.dup dX9_see_77 rfl ?_
          refine V.getf (v := .int ((mj_up (mj_up (mj_up I9 (m + 4) (I9 m 5).toNatClampNeg a) (m + 5) ((mj_up I9 (m + 4) (I9 m 5).toNatClampNeg a) m 5).toNatClampNeg b) (m + 6) ((mj_up (mj_up I9 (m + 4) (I9 m 5).toNatClampNeg a) (m + 5) ((mj_up I9 (m + 4) (I9 m 5).toNatClampNeg a) m 5).toNatClampNeg b) m 5).toNatClampNeg (1 : Int32)) m 5)) dX9_see_78 fl_X9_174 hm.1 (by decide) rfl ?_
          refine V.iconst (v := (1)) dX9_see_81 (by decide) ?_
          refine V.iadd dX9_see_82 ?_
          refine V.puti dX9_see_83 fl_X9_174 fp_X9_174 (Or.inl rfl) hm.1 (by decide) rfl rfl ?_
          refine V.aload_n dX9_see_86 rfl rfl ?_
          refine V.getf (v := .int ((mj_up (mj_up (mj_up (mj_up I9 (m + 4) (I9 m 5).toNatClampNeg a) (m + 5) ((mj_up I9 (m + 4) (I9 m 5).toNatClampNeg a) m 5).toNatClampNeg b) (m + 6) ((mj_up (mj_up I9 (m + 4) (I9 m 5).toNatClampNeg a) (m + 5) ((mj_up I9 (m + 4) (I9 m 5).toNatClampNeg a) m 5).toNatClampNeg b) m 5).toNatClampNeg (1 : Int32)) m 5 (((mj_up (mj_up (mj_up I9 (m + 4) (I9 m 5).toNatClampNeg a) (m + 5) ((mj_up I9 (m + 4) (I9 m 5).toNatClampNeg a) m 5).toNatClampNeg b) (m + 6) ((mj_up (mj_up I9 (m + 4) (I9 m 5).toNatClampNeg a) (m + 5) ((mj_up I9 (m + 4) (I9 m 5).toNatClampNeg a) m 5).toNatClampNeg b) m 5).toNatClampNeg (1 : Int32)) m 5) + (1 : Int32))) m 5)) dX9_see_87 fl_X9_174 hm.1 (by decide) rfl ?_
          exact V.ret (v := some (.int ((mj_up (mj_up (mj_up (mj_up I9 (m + 4) (I9 m 5).toNatClampNeg a) (m + 5) ((mj_up I9 (m + 4) (I9 m 5).toNatClampNeg a) m 5).toNatClampNeg b) (m + 6) ((mj_up (mj_up I9 (m + 4) (I9 m 5).toNatClampNeg a) (m + 5) ((mj_up I9 (m + 4) (I9 m 5).toNatClampNeg a) m 5).toNatClampNeg b) m 5).toNatClampNeg (1 : Int32)) m 5 (((mj_up (mj_up (mj_up I9 (m + 4) (I9 m 5).toNatClampNeg a) (m + 5) ((mj_up I9 (m + 4) (I9 m 5).toNatClampNeg a) m 5).toNatClampNeg b) (m + 6) ((mj_up (mj_up I9 (m + 4) (I9 m 5).toNatClampNeg a) (m + 5) ((mj_up I9 (m + 4) (I9 m 5).toNatClampNeg a) m 5).toNatClampNeg b) m 5).toNatClampNeg (1 : Int32)) m 5) + (1 : Int32))) m 5))) rfl (Or.inl ⟨_, rfl, dX9_see_90, _, rfl, rfl⟩) ⟨Nat.le_refl _, Nat.le_refl _⟩ H27
      · have H28 := H14.2 c15
        refine V.bipush (v := (-104)) dX9_see_35 (by decide) ?_
        exact V.ret (v := some (.int (-104 : Int32))) rfl (Or.inl ⟨_, rfl, dX9_see_37, _, rfl, rfl⟩) ⟨Nat.le_refl _, Nat.le_refl _⟩ H28
    · have H29 := H12.2 c13
      refine V.bipush (v := (-102)) dX9_see_23 (by decide) ?_
      exact V.ret (v := some (.int (-102 : Int32))) rfl (Or.inl ⟨_, rfl, dX9_see_25, _, rfl, rfl⟩) ⟨Nat.le_refl _, Nat.le_refl _⟩ H29
  · have H30 := H5.2 c6
    refine V.bipush (v := (-101)) dX9_see_8 (by decide) ?_
    exact V.ret (v := some (.int (-101 : Int32))) rfl (Or.inl ⟨_, rfl, dX9_see_10, _, rfl, rfl⟩) ⟨Nat.le_refl _, Nat.le_refl _⟩ H30
def hd_X9_askOf_16 (S : List mjD) (RET : Option Value → mjH → Prop) (x2 : Int32) (x3 : Int32) (x4 : Int32) (x5 : Int32) (I : Nat → Nat → Int32) (L : Nat → Nat → Int64) : Prop := V mr_X9_askOf (0, 0) RET 16 [(2, .int x2), (3, .int x3), (4, .int x4), (5, .int x5)] [] (S, I, L) (0, 0)
def hd_X9_askOf_32 (S : List mjD) (RET : Option Value → mjH → Prop) (x2 : Int32) (x3 : Int32) (x4 : Int32) (x5 : Int32) (x6 : Int32) (x7 : Int32) (I : Nat → Nat → Int32) (L : Nat → Nat → Int64) : Prop := V mr_X9_askOf (0, 0) RET 32 [(2, .int x2), (3, .int x3), (4, .int x4), (5, .int x5), (6, .int x6), (7, .int x7)] [] (S, I, L) (0, 0)
set_option maxRecDepth 100000 in
set_option maxHeartbeats 4000000 in
theorem it_X9_askOf_16 {S : List mjD} {RET : Option Value → mjH → Prop} {x2 : Int32} {x3 : Int32} {x4 : Int32} {x5 : Int32} {I : Nat → Nat → Int32} {L : Nat → Nat → Int64} (H0 : (((4 : Int32) ≤ x5 → RET (some (.int x3)) (S, I, L)) ∧ (¬ (4 : Int32) ≤ x5 → ((x2 = 0 → RET (some (.int x3)) (S, I, L)) ∧ (¬ x2 = 0 → hd_X9_askOf_32 S RET x2 x3 x4 x5 (0 : Int32) (0 : Int32) I L))))) : hd_X9_askOf_16 S RET x2 x3 x4 x5 I L := by
  unfold hd_X9_askOf_16
  refine V.iload dX9_askOf_16 rfl ?_
  refine V.iconst (v := (4)) dX9_askOf_18 (by decide) ?_
  refine V.icmp_ge (tgt := 134) dX9_askOf_19 (by decide) (fun c6 => ?_) (fun c6 => ?_)
  · have H7 := H0.1 c6
    refine V.iload_n dX9_askOf_134 rfl rfl ?_
    exact V.ret (v := some (.int x3)) rfl (Or.inl ⟨_, rfl, dX9_askOf_135, _, rfl, rfl⟩) ⟨Nat.le_refl _, Nat.le_refl _⟩ H7
  · have H8 := H0.2 c6
    refine V.iload_n dX9_askOf_22 rfl rfl ?_
    refine V.if_eq (tgt := 134) dX9_askOf_23 (by decide) (fun c9 => ?_) (fun c9 => ?_)
    · have H10 := H8.1 c9
      refine V.iload_n dX9_askOf_134 rfl rfl ?_
      exact V.ret (v := some (.int x3)) rfl (Or.inl ⟨_, rfl, dX9_askOf_135, _, rfl, rfl⟩) ⟨Nat.le_refl _, Nat.le_refl _⟩ H10
    · have H11 := H8.2 c9
      refine V.iconst (v := (0)) dX9_askOf_26 (by decide) ?_
      refine V.istore (lo' := [(6, .int (0 : Int32)), (2, .int x2), (3, .int x3), (4, .int x4), (5, .int x5)]) dX9_askOf_27 (by decide) rfl ?_
      refine V.iconst (v := (0)) dX9_askOf_29 (by decide) ?_
      refine V.istore (lo' := [(7, .int (0 : Int32)), (6, .int (0 : Int32)), (2, .int x2), (3, .int x3), (4, .int x4), (5, .int x5)]) dX9_askOf_30 (by decide) rfl ?_
      exact V.los [2, 3, 4, 5, 1, 0] rfl H11
set_option maxRecDepth 100000 in
set_option maxHeartbeats 4000000 in
theorem it_X9_askOf_32 {S : List mjD} {RET : Option Value → mjH → Prop} {x2 : Int32} {x3 : Int32} {x4 : Int32} {x5 : Int32} {x6 : Int32} {x7 : Int32} {I : Nat → Nat → Int32} {L : Nat → Nat → Int64} (H0 : (((4 : Int32) < x7 → ∃ r14 I15 L16, CTi mr_X9_size [.int x2] S I L r14 I15 L16 ∧ ∀ y19 : Int32, y19 = (r14 - x6) → ((x6 ≤ y19 → ((x4 ≤ y19 → ((x4 ≤ y19 → ∀ y28 : Int32, y28 = x5 + 1 → hd_X9_askOf_16 S RET x2 x3 x4 y28 I15 L16) ∧ (¬ x4 ≤ y19 → ∀ y32 : Int32, y32 = x5 + 1 → hd_X9_askOf_16 S RET x2 x3 y19 y32 I15 L16))) ∧ (¬ x4 ≤ y19 → ((x4 ≤ y19 → ∀ y38 : Int32, y38 = x5 + 1 → hd_X9_askOf_16 S RET x2 x5 x4 y38 I15 L16) ∧ (¬ x4 ≤ y19 → ∀ y42 : Int32, y42 = x5 + 1 → hd_X9_askOf_16 S RET x2 x5 y19 y42 I15 L16))))) ∧ (¬ x6 ≤ y19 → ((x4 ≤ x6 → ((x4 ≤ x6 → ∀ y50 : Int32, y50 = x5 + 1 → hd_X9_askOf_16 S RET x2 x3 x4 y50 I15 L16) ∧ (¬ x4 ≤ x6 → ∀ y54 : Int32, y54 = x5 + 1 → hd_X9_askOf_16 S RET x2 x3 x6 y54 I15 L16))) ∧ (¬ x4 ≤ x6 → ((x4 ≤ x6 → ∀ y60 : Int32, y60 = x5 + 1 → hd_X9_askOf_16 S RET x2 x5 x4 y60 I15 L16) ∧ (¬ x4 ≤ x6 → ∀ y64 : Int32, y64 = x5 + 1 → hd_X9_askOf_16 S RET x2 x5 x6 y64 I15 L16))))))) ∧ (¬ (4 : Int32) < x7 → ∃ r68 I69 L70, CTi mr_X9_isIn [.int x2, .int x7] S I L r68 I69 L70 ∧ ((r68 = 0 → ∀ y75 : Int32, y75 = (x6 + (0 : Int32)) → ∀ y78 : Int32, y78 = x7 + 1 → hd_X9_askOf_32 S RET x2 x3 x4 x5 y75 y78 I69 L70) ∧ (¬ r68 = 0 → ∃ r82 I83 L84, CTi mr_X9_could [.int x7, .int x5] S I69 L70 r82 I83 L84 ∧ ((r82 = 0 → ∀ y89 : Int32, y89 = (x6 + (0 : Int32)) → ∀ y92 : Int32, y92 = x7 + 1 → hd_X9_askOf_32 S RET x2 x3 x4 x5 y89 y92 I83 L84) ∧ (¬ r82 = 0 → ∀ y96 : Int32, y96 = (x6 + (1 : Int32)) → ∀ y99 : Int32, y99 = x7 + 1 → hd_X9_askOf_32 S RET x2 x3 x4 x5 y96 y99 I83 L84))))))) : hd_X9_askOf_32 S RET x2 x3 x4 x5 x6 x7 I L := by
  unfold hd_X9_askOf_32
  refine V.iload dX9_askOf_32 rfl ?_
  refine V.iconst (v := (4)) dX9_askOf_34 (by decide) ?_
  refine V.icmp_gt (tgt := 73) dX9_askOf_35 (by decide) (fun c12 => ?_) (fun c12 => ?_)
  · have H13 := H0.1 c12
    refine V.iload_n dX9_askOf_73 rfl rfl ?_
    obtain ⟨r14, I15, L16, t17, H18⟩ := H13
    refine V.cSi (N := mr_X9_size) (as := [.int x2]) dX9_askOf_74 ml_X9_405 ok_X9_size okS_X9_size ⟨Nat.le_of_ble_eq_true rfl, Nat.le_of_ble_eq_true rfl⟩ rfl rfl (Nat.le_of_ble_eq_true rfl) t17 ?_
    refine V.iload dX9_askOf_77 rfl ?_
    refine V.isub dX9_askOf_79 ?_
    refine V.topi (fun y19 e20 => ?_)
    have H21 := H18 y19 e20
    refine V.istore (lo' := [(7, .int y19), (2, .int x2), (3, .int x3), (4, .int x4), (5, .int x5), (6, .int x6)]) dX9_askOf_80 (by decide) rfl ?_
    refine V.iload dX9_askOf_82 rfl ?_
    refine V.iload dX9_askOf_84 rfl ?_
    refine V.icmp_le (tgt := 94) dX9_askOf_86 (by decide) (fun c22 => ?_) (fun c22 => ?_)
    · have H23 := H21.1 c22
      refine V.iload dX9_askOf_94 rfl ?_
      refine V.istore (lo' := [(8, .int y19), (7, .int y19), (2, .int x2), (3, .int x3), (4, .int x4), (5, .int x5), (6, .int x6)]) dX9_askOf_96 (by decide) rfl ?_
      refine V.iload dX9_askOf_98 rfl ?_
      refine V.iload dX9_askOf_100 rfl ?_
      refine V.icmp_ge (tgt := 110) dX9_askOf_102 (by decide) (fun c24 => ?_) (fun c24 => ?_)
      · have H25 := H23.1 c24
        refine V.iload_n dX9_askOf_110 rfl rfl ?_
        refine V.istore_n (lo' := [(3, .int x3), (8, .int y19), (7, .int y19), (2, .int x2), (4, .int x4), (5, .int x5), (6, .int x6)]) dX9_askOf_111 rfl (by decide) rfl ?_
        refine V.iload dX9_askOf_112 rfl ?_
        refine V.iload dX9_askOf_114 rfl ?_
        refine V.icmp_ge (tgt := 124) dX9_askOf_116 (by decide) (fun c26 => ?_) (fun c26 => ?_)
        · have H27 := H25.1 c26
          refine V.iload dX9_askOf_124 rfl ?_
          refine V.istore (lo' := [(4, .int x4), (3, .int x3), (8, .int y19), (7, .int y19), (2, .int x2), (5, .int x5), (6, .int x6)]) dX9_askOf_126 (by decide) rfl ?_
          obtain ⟨y28, e29⟩ : ∃ y : Int32, y = x5 + 1 := ⟨_, rfl⟩
          have H30 := H27 y28 e29
          refine V.iinc (v := y28) (lo' := [(5, .int y28), (4, .int x4), (3, .int x3), (8, .int y19), (7, .int y19), (2, .int x2), (6, .int x6)]) dX9_askOf_128 rfl (by rw [e29]; rfl) (by decide) rfl ?_
          refine V.goto (tgt := 16) dX9_askOf_131 (by decide) ?_
          exact V.los [5, 2, 1, 0] rfl H30
        · have H31 := H25.2 c26
          refine V.iload dX9_askOf_119 rfl ?_
          refine V.goto (tgt := 126) dX9_askOf_121 (by decide) ?_
          refine V.istore (lo' := [(4, .int y19), (3, .int x3), (8, .int y19), (7, .int y19), (2, .int x2), (5, .int x5), (6, .int x6)]) dX9_askOf_126 (by decide) rfl ?_
          obtain ⟨y32, e33⟩ : ∃ y : Int32, y = x5 + 1 := ⟨_, rfl⟩
          have H34 := H31 y32 e33
          refine V.iinc (v := y32) (lo' := [(5, .int y32), (4, .int y19), (3, .int x3), (8, .int y19), (7, .int y19), (2, .int x2), (6, .int x6)]) dX9_askOf_128 rfl (by rw [e33]; rfl) (by decide) rfl ?_
          refine V.goto (tgt := 16) dX9_askOf_131 (by decide) ?_
          exact V.los [5, 2, 1, 0] rfl H34
      · have H35 := H23.2 c24
        refine V.iload dX9_askOf_105 rfl ?_
        refine V.goto (tgt := 111) dX9_askOf_107 (by decide) ?_
        refine V.istore_n (lo' := [(3, .int x5), (8, .int y19), (7, .int y19), (2, .int x2), (4, .int x4), (5, .int x5), (6, .int x6)]) dX9_askOf_111 rfl (by decide) rfl ?_
        refine V.iload dX9_askOf_112 rfl ?_
        refine V.iload dX9_askOf_114 rfl ?_
        refine V.icmp_ge (tgt := 124) dX9_askOf_116 (by decide) (fun c36 => ?_) (fun c36 => ?_)
        · have H37 := H35.1 c36
          refine V.iload dX9_askOf_124 rfl ?_
          refine V.istore (lo' := [(4, .int x4), (3, .int x5), (8, .int y19), (7, .int y19), (2, .int x2), (5, .int x5), (6, .int x6)]) dX9_askOf_126 (by decide) rfl ?_
          obtain ⟨y38, e39⟩ : ∃ y : Int32, y = x5 + 1 := ⟨_, rfl⟩
          have H40 := H37 y38 e39
          refine V.iinc (v := y38) (lo' := [(5, .int y38), (4, .int x4), (3, .int x5), (8, .int y19), (7, .int y19), (2, .int x2), (6, .int x6)]) dX9_askOf_128 rfl (by rw [e39]; rfl) (by decide) rfl ?_
          refine V.goto (tgt := 16) dX9_askOf_131 (by decide) ?_
          exact V.los [5, 2, 1, 0] rfl H40
        · have H41 := H35.2 c36
          refine V.iload dX9_askOf_119 rfl ?_
          refine V.goto (tgt := 126) dX9_askOf_121 (by decide) ?_
          refine V.istore (lo' := [(4, .int y19), (3, .int x5), (8, .int y19), (7, .int y19), (2, .int x2), (5, .int x5), (6, .int x6)]) dX9_askOf_126 (by decide) rfl ?_
          obtain ⟨y42, e43⟩ : ∃ y : Int32, y = x5 + 1 := ⟨_, rfl⟩
          have H44 := H41 y42 e43
          refine V.iinc (v := y42) (lo' := [(5, .int y42), (4, .int y19), (3, .int x5), (8, .int y19), (7, .int y19), (2, .int x2), (6, .int x6)]) dX9_askOf_128 rfl (by rw [e43]; rfl) (by decide) rfl ?_
          refine V.goto (tgt := 16) dX9_askOf_131 (by decide) ?_
          exact V.los [5, 2, 1, 0] rfl H44
    · have H45 := H21.2 c22
      refine V.iload dX9_askOf_89 rfl ?_
      refine V.goto (tgt := 96) dX9_askOf_91 (by decide) ?_
      refine V.istore (lo' := [(8, .int x6), (7, .int y19), (2, .int x2), (3, .int x3), (4, .int x4), (5, .int x5), (6, .int x6)]) dX9_askOf_96 (by decide) rfl ?_
      refine V.iload dX9_askOf_98 rfl ?_
      refine V.iload dX9_askOf_100 rfl ?_
      refine V.icmp_ge (tgt := 110) dX9_askOf_102 (by decide) (fun c46 => ?_) (fun c46 => ?_)
      · have H47 := H45.1 c46
        refine V.iload_n dX9_askOf_110 rfl rfl ?_
        refine V.istore_n (lo' := [(3, .int x3), (8, .int x6), (7, .int y19), (2, .int x2), (4, .int x4), (5, .int x5), (6, .int x6)]) dX9_askOf_111 rfl (by decide) rfl ?_
        refine V.iload dX9_askOf_112 rfl ?_
        refine V.iload dX9_askOf_114 rfl ?_
        refine V.icmp_ge (tgt := 124) dX9_askOf_116 (by decide) (fun c48 => ?_) (fun c48 => ?_)
        · have H49 := H47.1 c48
          refine V.iload dX9_askOf_124 rfl ?_
          refine V.istore (lo' := [(4, .int x4), (3, .int x3), (8, .int x6), (7, .int y19), (2, .int x2), (5, .int x5), (6, .int x6)]) dX9_askOf_126 (by decide) rfl ?_
          obtain ⟨y50, e51⟩ : ∃ y : Int32, y = x5 + 1 := ⟨_, rfl⟩
          have H52 := H49 y50 e51
          refine V.iinc (v := y50) (lo' := [(5, .int y50), (4, .int x4), (3, .int x3), (8, .int x6), (7, .int y19), (2, .int x2), (6, .int x6)]) dX9_askOf_128 rfl (by rw [e51]; rfl) (by decide) rfl ?_
          refine V.goto (tgt := 16) dX9_askOf_131 (by decide) ?_
          exact V.los [5, 2, 1, 0] rfl H52
        · have H53 := H47.2 c48
          refine V.iload dX9_askOf_119 rfl ?_
          refine V.goto (tgt := 126) dX9_askOf_121 (by decide) ?_
          refine V.istore (lo' := [(4, .int x6), (3, .int x3), (8, .int x6), (7, .int y19), (2, .int x2), (5, .int x5), (6, .int x6)]) dX9_askOf_126 (by decide) rfl ?_
          obtain ⟨y54, e55⟩ : ∃ y : Int32, y = x5 + 1 := ⟨_, rfl⟩
          have H56 := H53 y54 e55
          refine V.iinc (v := y54) (lo' := [(5, .int y54), (4, .int x6), (3, .int x3), (8, .int x6), (7, .int y19), (2, .int x2), (6, .int x6)]) dX9_askOf_128 rfl (by rw [e55]; rfl) (by decide) rfl ?_
          refine V.goto (tgt := 16) dX9_askOf_131 (by decide) ?_
          exact V.los [5, 2, 1, 0] rfl H56
      · have H57 := H45.2 c46
        refine V.iload dX9_askOf_105 rfl ?_
        refine V.goto (tgt := 111) dX9_askOf_107 (by decide) ?_
        refine V.istore_n (lo' := [(3, .int x5), (8, .int x6), (7, .int y19), (2, .int x2), (4, .int x4), (5, .int x5), (6, .int x6)]) dX9_askOf_111 rfl (by decide) rfl ?_
        refine V.iload dX9_askOf_112 rfl ?_
        refine V.iload dX9_askOf_114 rfl ?_
        refine V.icmp_ge (tgt := 124) dX9_askOf_116 (by decide) (fun c58 => ?_) (fun c58 => ?_)
        · have H59 := H57.1 c58
          refine V.iload dX9_askOf_124 rfl ?_
          refine V.istore (lo' := [(4, .int x4), (3, .int x5), (8, .int x6), (7, .int y19), (2, .int x2), (5, .int x5), (6, .int x6)]) dX9_askOf_126 (by decide) rfl ?_
          obtain ⟨y60, e61⟩ : ∃ y : Int32, y = x5 + 1 := ⟨_, rfl⟩
          have H62 := H59 y60 e61
          refine V.iinc (v := y60) (lo' := [(5, .int y60), (4, .int x4), (3, .int x5), (8, .int x6), (7, .int y19), (2, .int x2), (6, .int x6)]) dX9_askOf_128 rfl (by rw [e61]; rfl) (by decide) rfl ?_
          refine V.goto (tgt := 16) dX9_askOf_131 (by decide) ?_
          exact V.los [5, 2, 1, 0] rfl H62
        · have H63 := H57.2 c58
          refine V.iload dX9_askOf_119 rfl ?_
          refine V.goto (tgt := 126) dX9_askOf_121 (by decide) ?_
          refine V.istore (lo' := [(4, .int x6), (3, .int x5), (8, .int x6), (7, .int y19), (2, .int x2), (5, .int x5), (6, .int x6)]) dX9_askOf_126 (by decide) rfl ?_
          obtain ⟨y64, e65⟩ : ∃ y : Int32, y = x5 + 1 := ⟨_, rfl⟩
          have H66 := H63 y64 e65
          refine V.iinc (v := y64) (lo' := [(5, .int y64), (4, .int x6), (3, .int x5), (8, .int x6), (7, .int y19), (2, .int x2), (6, .int x6)]) dX9_askOf_128 rfl (by rw [e65]; rfl) (by decide) rfl ?_
          refine V.goto (tgt := 16) dX9_askOf_131 (by decide) ?_
          exact V.los [5, 2, 1, 0] rfl H66
  · have H67 := H0.2 c12
    refine V.iload dX9_askOf_38 rfl ?_
    refine V.iload_n dX9_askOf_40 rfl rfl ?_
    refine V.iload dX9_askOf_41 rfl ?_
    obtain ⟨r68, I69, L70, t71, H72⟩ := H67
    refine V.cSi (N := mr_X9_isIn) (as := [.int x2, .int x7]) dX9_askOf_43 ml_X9_402 ok_X9_isIn okS_X9_isIn ⟨Nat.le_of_ble_eq_true rfl, Nat.le_of_ble_eq_true rfl⟩ rfl rfl (Nat.le_of_ble_eq_true rfl) t71 ?_
    refine V.if_eq (tgt := 63) dX9_askOf_46 (by decide) (fun c73 => ?_) (fun c73 => ?_)
    · have H74 := H72.1 c73
      refine V.iconst (v := (0)) dX9_askOf_63 (by decide) ?_
      refine V.iadd dX9_askOf_64 ?_
      refine V.topi (fun y75 e76 => ?_)
      have H77 := H74 y75 e76
      refine V.istore (lo' := [(6, .int y75), (2, .int x2), (3, .int x3), (4, .int x4), (5, .int x5), (7, .int x7)]) dX9_askOf_65 (by decide) rfl ?_
      obtain ⟨y78, e79⟩ : ∃ y : Int32, y = x7 + 1 := ⟨_, rfl⟩
      have H80 := H77 y78 e79
      refine V.iinc (v := y78) (lo' := [(7, .int y78), (6, .int y75), (2, .int x2), (3, .int x3), (4, .int x4), (5, .int x5)]) dX9_askOf_67 rfl (by rw [e79]; rfl) (by decide) rfl ?_
      refine V.goto (tgt := 32) dX9_askOf_70 (by decide) ?_
      exact V.los [2, 3, 4, 5, 1, 0] rfl H80
    · have H81 := H72.2 c73
      refine V.iload dX9_askOf_49 rfl ?_
      refine V.iload dX9_askOf_51 rfl ?_
      obtain ⟨r82, I83, L84, t85, H86⟩ := H81
      refine V.cSi (N := mr_X9_could) (as := [.int x7, .int x5]) dX9_askOf_53 ml_X9_398 ok_X9_could okS_X9_could ⟨Nat.le_of_ble_eq_true rfl, Nat.le_of_ble_eq_true rfl⟩ rfl rfl (Nat.le_of_ble_eq_true rfl) t85 ?_
      refine V.if_eq (tgt := 63) dX9_askOf_56 (by decide) (fun c87 => ?_) (fun c87 => ?_)
      · have H88 := H86.1 c87
        refine V.iconst (v := (0)) dX9_askOf_63 (by decide) ?_
        refine V.iadd dX9_askOf_64 ?_
        refine V.topi (fun y89 e90 => ?_)
        have H91 := H88 y89 e90
        refine V.istore (lo' := [(6, .int y89), (2, .int x2), (3, .int x3), (4, .int x4), (5, .int x5), (7, .int x7)]) dX9_askOf_65 (by decide) rfl ?_
        obtain ⟨y92, e93⟩ : ∃ y : Int32, y = x7 + 1 := ⟨_, rfl⟩
        have H94 := H91 y92 e93
        refine V.iinc (v := y92) (lo' := [(7, .int y92), (6, .int y89), (2, .int x2), (3, .int x3), (4, .int x4), (5, .int x5)]) dX9_askOf_67 rfl (by rw [e93]; rfl) (by decide) rfl ?_
        refine V.goto (tgt := 32) dX9_askOf_70 (by decide) ?_
        exact V.los [2, 3, 4, 5, 1, 0] rfl H94
      · have H95 := H86.2 c87
        refine V.iconst (v := (1)) dX9_askOf_59 (by decide) ?_
        refine V.goto (tgt := 64) dX9_askOf_60 (by decide) ?_
        refine V.iadd dX9_askOf_64 ?_
        refine V.topi (fun y96 e97 => ?_)
        have H98 := H95 y96 e97
        refine V.istore (lo' := [(6, .int y96), (2, .int x2), (3, .int x3), (4, .int x4), (5, .int x5), (7, .int x7)]) dX9_askOf_65 (by decide) rfl ?_
        obtain ⟨y99, e100⟩ : ∃ y : Int32, y = x7 + 1 := ⟨_, rfl⟩
        have H101 := H98 y99 e100
        refine V.iinc (v := y99) (lo' := [(7, .int y99), (6, .int y96), (2, .int x2), (3, .int x3), (4, .int x4), (5, .int x5)]) dX9_askOf_67 rfl (by rw [e100]; rfl) (by decide) rfl ?_
        refine V.goto (tgt := 32) dX9_askOf_70 (by decide) ?_
        exact V.los [2, 3, 4, 5, 1, 0] rfl H101
set_option maxRecDepth 100000 in
set_option maxHeartbeats 4000000 in
theorem wp_X9_askOf {S : List mjD} {RET : Option Value → mjH → Prop} {m : Nat} (hm : is_Model S m) {a : Int32} {I : Nat → Nat → Int32} {L : Nat → Nat → Int64} (H0 : ∃ r1 I2 L3, CTi mr_X9_sortsOf [.ref m, .int a] S I L r1 I2 L3 ∧ hd_X9_askOf_16 S RET r1 (-1 : Int32) (268435456 : Int32) (0 : Int32) I2 L3) : CT mr_X9_askOf (0, 0) [.ref m, .int a] (S, I, L) RET := by
  refine CT.of (lo := [(0, .ref m), (1, .int a)]) (by decide) (fun _ _ => Nat.le_of_ble_eq_true rfl) (fun _ _ => rfl) rfl ?_
  refine V.aload_n dX9_askOf_0 rfl rfl ?_
  refine V.iload_n dX9_askOf_1 rfl rfl ?_
  obtain ⟨r1, I2, L3, t4, H5⟩ := H0
  refine V.cVi (N := mr_X9_sortsOf) (as := [.int a]) dX9_askOf_2 ml_X9_314 ok_X9_sortsOf okV_X9_sortsOf ⟨Nat.le_of_ble_eq_true rfl, Nat.le_of_ble_eq_true rfl⟩ hm.1 rfl rfl rfl (Nat.le_of_ble_eq_true rfl) t4 ?_
  refine V.istore_n (lo' := [(2, .int r1), (0, .ref m), (1, .int a)]) dX9_askOf_5 rfl (by decide) rfl ?_
  refine V.iconst (v := (-1)) dX9_askOf_6 (by decide) ?_
  refine V.istore_n (lo' := [(3, .int (-1 : Int32)), (2, .int r1), (0, .ref m), (1, .int a)]) dX9_askOf_7 rfl (by decide) rfl ?_
  refine V.ldc_w kc_X9_401 dX9_askOf_8 ?_
  refine V.istore (lo' := [(4, .int (268435456 : Int32)), (3, .int (-1 : Int32)), (2, .int r1), (0, .ref m), (1, .int a)]) dX9_askOf_11 (by decide) rfl ?_
  refine V.iconst (v := (0)) dX9_askOf_13 (by decide) ?_
  refine V.istore (lo' := [(5, .int (0 : Int32)), (4, .int (268435456 : Int32)), (3, .int (-1 : Int32)), (2, .int r1), (0, .ref m), (1, .int a)]) dX9_askOf_14 (by decide) rfl ?_
  exact V.los [3, 2, 1, 0] rfl H5
def hd_X9_layText_12 (S : List mjD) (RET : Option Value → mjH → Prop) (a0 : Nat) (x1 : Int32) (x2 : Int32) (I : Nat → Nat → Int32) (L : Nat → Nat → Int64) : Prop := V mr_X9_layText (0, 0) RET 12 [(0, .ref a0), (1, .int x1), (2, .int x2)] [] (S, I, L) (0, 0)
set_option maxRecDepth 100000 in
set_option maxHeartbeats 4000000 in
theorem it_X9_layText_12 {S : List mjD} {RET : Option Value → mjH → Prop} {a0 : Nat} (h0 : is_Model S a0) {x1 : Int32} {x2 : Int32} {I : Nat → Nat → Int32} {L : Nat → Nat → Int64} (H0 : ((x2 < 0 → RET none (S, I, L)) ∧ (¬ x2 < 0 → (vp_in (((6 : Int32) * x1) + x2) 24) ∧ ∀ y11 : Int64, y11 = (L (a0 + 2) (((6 : Int32) * x1) + x2).toNatClampNeg) → ((y11 = (0 : Int64) → ∀ y16 : Int32, y16 = x2 + (-1) → hd_X9_layText_12 S RET a0 x1 y16 I L) ∧ (¬ y11 = (0 : Int64) → (vp_in x1 4) ∧ ((¬ x2 = (I (a0 + 3) x1.toNatClampNeg) → ∃ I25 L26, CTv mr_X9_addTerm [.ref a0, .int x2, .long y11, .int (0 : Int32)] S I L I25 L26 ∧ ∀ y29 : Int32, y29 = x2 + (-1) → hd_X9_layText_12 S RET a0 x1 y29 I25 L26) ∧ (x2 = (I (a0 + 3) x1.toNatClampNeg) → ∃ I34 L35, CTv mr_X9_addTerm [.ref a0, .int x2, .long y11, .int (1 : Int32)] S I L I34 L35 ∧ ∀ y38 : Int32, y38 = x2 + (-1) → hd_X9_layText_12 S RET a0 x1 y38 I34 L35))))))) : hd_X9_layText_12 S RET a0 x1 x2 I L := by
  unfold hd_X9_layText_12
  refine V.iload_n dX9_layText_12 rfl rfl ?_
  refine V.if_lt (tgt := 61) dX9_layText_13 (by decide) (fun c6 => ?_) (fun c6 => ?_)
  · have H7 := H0.1 c6
    exact V.ret rfl (Or.inr (Or.inr (Or.inr ⟨rfl, dX9_layText_61, rfl⟩))) ⟨Nat.le_refl _, Nat.le_refl _⟩ H7
  · have H8 := H0.2 c6
    refine V.aload_n dX9_layText_16 rfl rfl ?_
    refine V.getf (v := .ref (a0 + 2)) dX9_layText_17 fl_X9_13 h0.1 (by decide) rfl ?_
    refine V.bipush (v := (6)) dX9_layText_20 (by decide) ?_
    refine V.iload_n dX9_layText_22 rfl rfl ?_
    refine V.imul dX9_layText_23 ?_
    refine V.iload_n dX9_layText_24 rfl rfl ?_
    refine V.iadd dX9_layText_25 ?_
    obtain ⟨o9, H10⟩ := H8
    refine V.lald dX9_layText_26 h0.2.2.1 o9 ?_
    refine V.topl (fun y11 e12 => ?_)
    have H13 := H10 y11 e12
    refine V.lstore_n (lo' := [(3, .long y11), (0, .ref a0), (1, .int x1), (2, .int x2)]) dX9_layText_27 rfl (by decide) rfl ?_
    refine V.lload_n dX9_layText_28 rfl rfl ?_
    refine V.lconst (v := 0) dX9_layText_29 (by decide) ?_
    refine V.lc_eq (tgt := 55) dX9_layText_30 dX9_layText_31 (by decide) (fun c14 => ?_) (fun c14 => ?_)
    · have H15 := H13.1 c14
      obtain ⟨y16, e17⟩ : ∃ y : Int32, y = x2 + (-1) := ⟨_, rfl⟩
      have H18 := H15 y16 e17
      refine V.iinc (v := y16) (lo' := [(2, .int y16), (3, .long y11), (0, .ref a0), (1, .int x1)]) dX9_layText_55 rfl (by rw [e17]; rfl) (by decide) rfl ?_
      refine V.goto (tgt := 12) dX9_layText_58 (by decide) ?_
      exact V.los [2, 3, 0] rfl H18
    · have H19 := H13.2 c14
      refine V.aload_n dX9_layText_34 rfl rfl ?_
      refine V.iload_n dX9_layText_35 rfl rfl ?_
      refine V.lload_n dX9_layText_36 rfl rfl ?_
      refine V.iload_n dX9_layText_37 rfl rfl ?_
      refine V.aload_n dX9_layText_38 rfl rfl ?_
      refine V.getf (v := .ref (a0 + 3)) dX9_layText_39 fl_X9_17 h0.1 (by decide) rfl ?_
      refine V.iload_n dX9_layText_42 rfl rfl ?_
      obtain ⟨o20, H21⟩ := H19
      refine V.iald dX9_layText_43 h0.2.2.2.1 o20 ?_
      refine V.icmp_ne (tgt := 51) dX9_layText_44 (by decide) (fun c22 => ?_) (fun c22 => ?_)
      · have H23 := H21.1 c22
        refine V.iconst (v := (0)) dX9_layText_51 (by decide) ?_
        obtain ⟨I25, L26, t27, H28⟩ := H23
        refine V.cVv (N := mr_X9_addTerm) (as := [.int x2, .long y11, .int (0 : Int32)]) dX9_layText_52 ml_X9_295 ok_X9_addTerm okV_X9_addTerm ⟨Nat.le_of_ble_eq_true rfl, Nat.le_of_ble_eq_true rfl⟩ h0.1 rfl rfl rfl (Nat.le_of_ble_eq_true rfl) t27 ?_
        obtain ⟨y29, e30⟩ : ∃ y : Int32, y = x2 + (-1) := ⟨_, rfl⟩
        have H31 := H28 y29 e30
        refine V.iinc (v := y29) (lo' := [(2, .int y29), (3, .long y11), (0, .ref a0), (1, .int x1)]) dX9_layText_55 rfl (by rw [e30]; rfl) (by decide) rfl ?_
        refine V.goto (tgt := 12) dX9_layText_58 (by decide) ?_
        exact V.los [2, 3, 0] rfl H31
      · have H32 := H21.2 c22
        refine V.iconst (v := (1)) dX9_layText_47 (by decide) ?_
        refine V.goto (tgt := 52) dX9_layText_48 (by decide) ?_
        obtain ⟨I34, L35, t36, H37⟩ := H32
        refine V.cVv (N := mr_X9_addTerm) (as := [.int x2, .long y11, .int (1 : Int32)]) dX9_layText_52 ml_X9_295 ok_X9_addTerm okV_X9_addTerm ⟨Nat.le_of_ble_eq_true rfl, Nat.le_of_ble_eq_true rfl⟩ h0.1 rfl rfl rfl (Nat.le_of_ble_eq_true rfl) t36 ?_
        obtain ⟨y38, e39⟩ : ∃ y : Int32, y = x2 + (-1) := ⟨_, rfl⟩
        have H40 := H37 y38 e39
        refine V.iinc (v := y38) (lo' := [(2, .int y38), (3, .long y11), (0, .ref a0), (1, .int x1)]) dX9_layText_55 rfl (by rw [e39]; rfl) (by decide) rfl ?_
        refine V.goto (tgt := 12) dX9_layText_58 (by decide) ?_
        exact V.los [2, 3, 0] rfl H40
set_option maxRecDepth 100000 in
set_option maxHeartbeats 4000000 in
theorem wp_X9_layText {S : List mjD} {RET : Option Value → mjH → Prop} {m : Nat} (hm : is_Model S m) {a : Int32} {I : Nat → Nat → Int32} {L : Nat → Nat → Int64} (H0 : (vp_in a 4) ∧ ∀ y3 : Int32, y3 = ((mj_up I m 36 (0 : Int32)) (m + 3) a.toNatClampNeg) → hd_X9_layText_12 S RET m a y3 (mj_up I m 36 (0 : Int32)) L) : CT mr_X9_layText (0, 0) [.ref m, .int a] (S, I, L) RET := by
  refine CT.of (lo := [(0, .ref m), (1, .int a)]) (by decide) (fun _ _ => Nat.le_of_ble_eq_true rfl) (fun _ _ => rfl) rfl ?_
  refine V.aload_n dX9_layText_0 rfl rfl ?_
  refine V.iconst (v := (0)) dX9_layText_1 (by decide) ?_
  refine V.puti dX9_layText_2 fl_X9_283 fp_X9_283 (Or.inl rfl) hm.1 (by decide) rfl rfl ?_
  refine V.aload_n dX9_layText_5 rfl rfl ?_
  refine V.getf (v := .ref (m + 3)) dX9_layText_6 fl_X9_17 hm.1 (by decide) rfl ?_
  refine V.iload_n dX9_layText_9 rfl rfl ?_
  obtain ⟨o1, H2⟩ := H0
  refine V.iald dX9_layText_10 hm.2.2.2.1 o1 ?_
  refine V.topi (fun y3 e4 => ?_)
  have H5 := H2 y3 e4
  refine V.istore_n (lo' := [(2, .int y3), (0, .ref m), (1, .int a)]) dX9_layText_11 rfl (by decide) rfl ?_
  exact V.los [1, 2, 0] rfl H5
set_option maxRecDepth 100000 in
set_option maxHeartbeats 4000000 in
theorem wp_X9_readPower {S : List mjD} {RET : Option Value → mjH → Prop} {m : Nat} (hm : is_Model S m) {a : Int32} {b : Int64} {I : Nat → Nat → Int32} {L : Nat → Nat → Int64} (H0 : ∃ r1 I2 L3, CTi mr_X9_at [.ref m, .int a] S I L r1 I2 L3 ∧ ((¬ r1 = (94 : Int32) → RET (some (.int a)) (S, mj_up I2 m 13 (1 : Int32), mj_up L3 (m + 8) (1 : Int32).toNatClampNeg b)) ∧ (r1 = (94 : Int32) → ∀ y9 : Int32, y9 = a + 1 → (((2 : Int32) < (I2 m 13) → (((5 : Int32) ≤ ((I2 m 13) - (1 : Int32)) → ∃ r16 I17 L18, CTi mr_X9_isFigure [.ref m, .int y9, .int (2 : Int32), .int (5 : Int32)] S I2 L3 r16 I17 L18 ∧ ((¬ r16 = 0 → ∃ r23 I24 L25, CTi mr_X9_at [.ref m, .int y9] S I17 L18 r23 I24 L25 ∧ ∀ y28 : Int32, y28 = (r23 - (48 : Int32)) → ∀ y31 : Int32, y31 = y9 + 1 → (vp_in y28 6) ∧ RET (some (.int y31)) (S, mj_up I24 m 13 y28, mj_up L25 (m + 8) y28.toNatClampNeg b)) ∧ (r16 = 0 → ∃ r37 I38 L39, CTi mr_X9_broken [.ref m, .int y9] S I17 L18 r37 I38 L39 ∧ RET (some (.int r37)) (S, I38, L39)))) ∧ (¬ (5 : Int32) ≤ ((I2 m 13) - (1 : Int32)) → ∃ r43 I44 L45, CTi mr_X9_isFigure [.ref m, .int y9, .int (2 : Int32), .int ((I2 m 13) - (1 : Int32))] S I2 L3 r43 I44 L45 ∧ ((¬ r43 = 0 → ∃ r50 I51 L52, CTi mr_X9_at [.ref m, .int y9] S I44 L45 r50 I51 L52 ∧ ∀ y55 : Int32, y55 = (r50 - (48 : Int32)) → ∀ y58 : Int32, y58 = y9 + 1 → (vp_in y55 6) ∧ RET (some (.int y58)) (S, mj_up I51 m 13 y55, mj_up L52 (m + 8) y55.toNatClampNeg b)) ∧ (r43 = 0 → ∃ r64 I65 L66, CTi mr_X9_broken [.ref m, .int y9] S I44 L45 r64 I65 L66 ∧ RET (some (.int r64)) (S, I65, L66)))))) ∧ (¬ (2 : Int32) < (I2 m 13) → ∃ r70 I71 L72, CTi mr_X9_broken [.ref m, .int a] S I2 L3 r70 I71 L72 ∧ RET (some (.int r70)) (S, I71, L72)))))) : CT mr_X9_readPower (0, 0) [.ref m, .int a, .long b] (S, I, L) RET := by
  refine CT.of (lo := [(0, .ref m), (1, .int a), (2, .long b)]) (by decide) (fun _ _ => Nat.le_of_ble_eq_true rfl) (fun _ _ => rfl) rfl ?_
  refine V.iload_n dX9_readPower_0 rfl rfl ?_
  refine V.istore (lo' := [(4, .int a), (0, .ref m), (1, .int a), (2, .long b)]) dX9_readPower_1 (by decide) rfl ?_
  refine V.iconst (v := (1)) dX9_readPower_3 (by decide) ?_
  refine V.istore (lo' := [(5, .int (1 : Int32)), (4, .int a), (0, .ref m), (1, .int a), (2, .long b)]) dX9_readPower_4 (by decide) rfl ?_
  refine V.aload_n dX9_readPower_6 rfl rfl ?_
  refine V.iload dX9_readPower_7 rfl ?_
  obtain ⟨r1, I2, L3, t4, H5⟩ := H0
  refine V.cVi (N := mr_X9_at) (as := [.int a]) dX9_readPower_9 ml_X9_124 ok_X9_at okV_X9_at ⟨Nat.le_of_ble_eq_true rfl, Nat.le_of_ble_eq_true rfl⟩ hm.1 rfl rfl rfl (Nat.le_of_ble_eq_true rfl) t4 ?_
  refine V.bipush (v := (94)) dX9_readPower_12 (by decide) ?_
  refine V.icmp_ne (tgt := 85) dX9_readPower_14 (by decide) (fun c6 => ?_) (fun c6 => ?_)
  · have H7 := H5.1 c6
    refine V.aload_n dX9_readPower_85 rfl rfl ?_
    refine V.getf (v := .ref (m + 8)) dX9_readPower_86 fl_X9_33 hm.1 (by decide) rfl ?_
    refine V.iload dX9_readPower_89 rfl ?_
    refine V.lload_n dX9_readPower_91 rfl rfl ?_
    refine V.last dX9_readPower_92 hm.2.2.2.2.2.2.2.2.1 (mj_lit (by decide)) ?_
    refine V.aload_n dX9_readPower_93 rfl rfl ?_
    refine V.iload dX9_readPower_94 rfl ?_
    refine V.puti dX9_readPower_96 fl_X9_132 fp_X9_132 (Or.inl rfl) hm.1 (by decide) rfl rfl ?_
    refine V.iload dX9_readPower_99 rfl ?_
    exact V.ret (v := some (.int a)) rfl (Or.inl ⟨_, rfl, dX9_readPower_101, _, rfl, rfl⟩) ⟨Nat.le_refl _, Nat.le_refl _⟩ H7
  · have H8 := H5.2 c6
    obtain ⟨y9, e10⟩ : ∃ y : Int32, y = a + 1 := ⟨_, rfl⟩
    have H11 := H8 y9 e10
    refine V.iinc (v := y9) (lo' := [(4, .int y9), (5, .int (1 : Int32)), (0, .ref m), (1, .int a), (2, .long b)]) dX9_readPower_17 rfl (by rw [e10]; rfl) (by decide) rfl ?_
    refine V.aload_n dX9_readPower_20 rfl rfl ?_
    refine V.getf (v := .int (I2 m 13)) dX9_readPower_21 fl_X9_132 hm.1 (by decide) rfl ?_
    refine V.iconst (v := (2)) dX9_readPower_24 (by decide) ?_
    refine V.icmp_gt (tgt := 34) dX9_readPower_25 (by decide) (fun c12 => ?_) (fun c12 => ?_)
    · have H13 := H11.1 c12
      refine V.aload_n dX9_readPower_34 rfl rfl ?_
      refine V.iload dX9_readPower_35 rfl ?_
      refine V.iconst (v := (2)) dX9_readPower_37 (by decide) ?_
      refine V.aload_n dX9_readPower_38 rfl rfl ?_
      refine V.getf (v := .int (I2 m 13)) dX9_readPower_39 fl_X9_132 hm.1 (by decide) rfl ?_
      refine V.iconst (v := (1)) dX9_readPower_42 (by decide) ?_
      refine V.isub dX9_readPower_43 ?_
      refine V.iconst (v := (5)) dX9_readPower_44 (by decide) ?_
      refine V.icmp_ge (tgt := 57) dX9_readPower_45 (by decide) (fun c14 => ?_) (fun c14 => ?_)
      · have H15 := H13.1 c14
        refine V.iconst (v := (5)) dX9_readPower_57 (by decide) ?_
        obtain ⟨r16, I17, L18, t19, H20⟩ := H15
        refine V.cVi (N := mr_X9_isFigure) (as := [.int y9, .int (2 : Int32), .int (5 : Int32)]) dX9_readPower_58 ml_X9_138 ok_X9_isFigure okV_X9_isFigure ⟨Nat.le_of_ble_eq_true rfl, Nat.le_of_ble_eq_true rfl⟩ hm.1 rfl rfl rfl (Nat.le_of_ble_eq_true rfl) t19 ?_
        refine V.if_ne (tgt := 71) dX9_readPower_61 (by decide) (fun c21 => ?_) (fun c21 => ?_)
        · have H22 := H20.1 c21
          refine V.aload_n dX9_readPower_71 rfl rfl ?_
          refine V.iload dX9_readPower_72 rfl ?_
          obtain ⟨r23, I24, L25, t26, H27⟩ := H22
          refine V.cVi (N := mr_X9_at) (as := [.int y9]) dX9_readPower_74 ml_X9_124 ok_X9_at okV_X9_at ⟨Nat.le_of_ble_eq_true rfl, Nat.le_of_ble_eq_true rfl⟩ hm.1 rfl rfl rfl (Nat.le_of_ble_eq_true rfl) t26 ?_
          refine V.bipush (v := (48)) dX9_readPower_77 (by decide) ?_
          refine V.isub dX9_readPower_79 ?_
          refine V.topi (fun y28 e29 => ?_)
          have H30 := H27 y28 e29
          refine V.istore (lo' := [(5, .int y28), (4, .int y9), (0, .ref m), (1, .int a), (2, .long b)]) dX9_readPower_80 (by decide) rfl ?_
          obtain ⟨y31, e32⟩ : ∃ y : Int32, y = y9 + 1 := ⟨_, rfl⟩
          have H33 := H30 y31 e32
          refine V.iinc (v := y31) (lo' := [(4, .int y31), (5, .int y28), (0, .ref m), (1, .int a), (2, .long b)]) dX9_readPower_82 rfl (by rw [e32]; rfl) (by decide) rfl ?_
          refine V.aload_n dX9_readPower_85 rfl rfl ?_
          refine V.getf (v := .ref (m + 8)) dX9_readPower_86 fl_X9_33 hm.1 (by decide) rfl ?_
          refine V.iload dX9_readPower_89 rfl ?_
          refine V.lload_n dX9_readPower_91 rfl rfl ?_
          obtain ⟨o34, H35⟩ := H33
          refine V.last dX9_readPower_92 hm.2.2.2.2.2.2.2.2.1 o34 ?_
          refine V.aload_n dX9_readPower_93 rfl rfl ?_
          refine V.iload dX9_readPower_94 rfl ?_
          refine V.puti dX9_readPower_96 fl_X9_132 fp_X9_132 (Or.inl rfl) hm.1 (by decide) rfl rfl ?_
          refine V.iload dX9_readPower_99 rfl ?_
          exact V.ret (v := some (.int y31)) rfl (Or.inl ⟨_, rfl, dX9_readPower_101, _, rfl, rfl⟩) ⟨Nat.le_refl _, Nat.le_refl _⟩ H35
        · have H36 := H20.2 c21
          refine V.aload_n dX9_readPower_64 rfl rfl ?_
          refine V.iload dX9_readPower_65 rfl ?_
          obtain ⟨r37, I38, L39, t40, H41⟩ := H36
          refine V.cVi (N := mr_X9_broken) (as := [.int y9]) dX9_readPower_67 ml_X9_135 ok_X9_broken okV_X9_broken ⟨Nat.le_of_ble_eq_true rfl, Nat.le_of_ble_eq_true rfl⟩ hm.1 rfl rfl rfl (Nat.le_of_ble_eq_true rfl) t40 ?_
          exact V.ret (v := some (.int r37)) rfl (Or.inl ⟨_, rfl, dX9_readPower_70, _, rfl, rfl⟩) ⟨Nat.le_refl _, Nat.le_refl _⟩ H41
      · have H42 := H13.2 c14
        refine V.aload_n dX9_readPower_48 rfl rfl ?_
        refine V.getf (v := .int (I2 m 13)) dX9_readPower_49 fl_X9_132 hm.1 (by decide) rfl ?_
        refine V.iconst (v := (1)) dX9_readPower_52 (by decide) ?_
        refine V.isub dX9_readPower_53 ?_
        refine V.goto (tgt := 58) dX9_readPower_54 (by decide) ?_
        obtain ⟨r43, I44, L45, t46, H47⟩ := H42
        refine V.cVi (N := mr_X9_isFigure) (as := [.int y9, .int (2 : Int32), .int ((I2 m 13) - (1 : Int32))]) dX9_readPower_58 ml_X9_138 ok_X9_isFigure okV_X9_isFigure ⟨Nat.le_of_ble_eq_true rfl, Nat.le_of_ble_eq_true rfl⟩ hm.1 rfl rfl rfl (Nat.le_of_ble_eq_true rfl) t46 ?_
        refine V.if_ne (tgt := 71) dX9_readPower_61 (by decide) (fun c48 => ?_) (fun c48 => ?_)
        · have H49 := H47.1 c48
          refine V.aload_n dX9_readPower_71 rfl rfl ?_
          refine V.iload dX9_readPower_72 rfl ?_
          obtain ⟨r50, I51, L52, t53, H54⟩ := H49
          refine V.cVi (N := mr_X9_at) (as := [.int y9]) dX9_readPower_74 ml_X9_124 ok_X9_at okV_X9_at ⟨Nat.le_of_ble_eq_true rfl, Nat.le_of_ble_eq_true rfl⟩ hm.1 rfl rfl rfl (Nat.le_of_ble_eq_true rfl) t53 ?_
          refine V.bipush (v := (48)) dX9_readPower_77 (by decide) ?_
          refine V.isub dX9_readPower_79 ?_
          refine V.topi (fun y55 e56 => ?_)
          have H57 := H54 y55 e56
          refine V.istore (lo' := [(5, .int y55), (4, .int y9), (0, .ref m), (1, .int a), (2, .long b)]) dX9_readPower_80 (by decide) rfl ?_
          obtain ⟨y58, e59⟩ : ∃ y : Int32, y = y9 + 1 := ⟨_, rfl⟩
          have H60 := H57 y58 e59
          refine V.iinc (v := y58) (lo' := [(4, .int y58), (5, .int y55), (0, .ref m), (1, .int a), (2, .long b)]) dX9_readPower_82 rfl (by rw [e59]; rfl) (by decide) rfl ?_
          refine V.aload_n dX9_readPower_85 rfl rfl ?_
          refine V.getf (v := .ref (m + 8)) dX9_readPower_86 fl_X9_33 hm.1 (by decide) rfl ?_
          refine V.iload dX9_readPower_89 rfl ?_
          refine V.lload_n dX9_readPower_91 rfl rfl ?_
          obtain ⟨o61, H62⟩ := H60
          refine V.last dX9_readPower_92 hm.2.2.2.2.2.2.2.2.1 o61 ?_
          refine V.aload_n dX9_readPower_93 rfl rfl ?_
          refine V.iload dX9_readPower_94 rfl ?_
          refine V.puti dX9_readPower_96 fl_X9_132 fp_X9_132 (Or.inl rfl) hm.1 (by decide) rfl rfl ?_
          refine V.iload dX9_readPower_99 rfl ?_
          exact V.ret (v := some (.int y58)) rfl (Or.inl ⟨_, rfl, dX9_readPower_101, _, rfl, rfl⟩) ⟨Nat.le_refl _, Nat.le_refl _⟩ H62
        · have H63 := H47.2 c48
          refine V.aload_n dX9_readPower_64 rfl rfl ?_
          refine V.iload dX9_readPower_65 rfl ?_
          obtain ⟨r64, I65, L66, t67, H68⟩ := H63
          refine V.cVi (N := mr_X9_broken) (as := [.int y9]) dX9_readPower_67 ml_X9_135 ok_X9_broken okV_X9_broken ⟨Nat.le_of_ble_eq_true rfl, Nat.le_of_ble_eq_true rfl⟩ hm.1 rfl rfl rfl (Nat.le_of_ble_eq_true rfl) t67 ?_
          exact V.ret (v := some (.int r64)) rfl (Or.inl ⟨_, rfl, dX9_readPower_70, _, rfl, rfl⟩) ⟨Nat.le_refl _, Nat.le_refl _⟩ H68
    · have H69 := H11.2 c12
      refine V.aload_n dX9_readPower_28 rfl rfl ?_
      refine V.iload_n dX9_readPower_29 rfl rfl ?_
      obtain ⟨r70, I71, L72, t73, H74⟩ := H69
      refine V.cVi (N := mr_X9_broken) (as := [.int a]) dX9_readPower_30 ml_X9_135 ok_X9_broken okV_X9_broken ⟨Nat.le_of_ble_eq_true rfl, Nat.le_of_ble_eq_true rfl⟩ hm.1 rfl rfl rfl (Nat.le_of_ble_eq_true rfl) t73 ?_
      exact V.ret (v := some (.int r70)) rfl (Or.inl ⟨_, rfl, dX9_readPower_33, _, rfl, rfl⟩) ⟨Nat.le_refl _, Nat.le_refl _⟩ H74
set_option maxRecDepth 100000 in
set_option maxHeartbeats 4000000 in
theorem wp_X9_takesOnce {S : List mjD} {RET : Option Value → mjH → Prop} {m : Nat} (hm : is_Model S m) {a : Int32} {b : Int32} {c : Int32} {e : Int32} {I : Nat → Nat → Int32} {L : Nat → Nat → Int64} (H0 : ∃ r1 I2 L3, CTi mr_X9_dividesBy [.ref m, .int a, .int b, .int c, .int e] S I L r1 I2 L3 ∧ ((r1 = 0 → RET (some (.int (1 : Int32))) (S, I2, L3)) ∧ (¬ r1 = 0 → ∃ r9 I10 L11, CTi mr_X9_dividesBy [.ref m, .int a, .int b, .int c, .int e] S (mj_up (mj_up I2 m 46 ((I2 m 46) + (1 : Int32))) m 45 (((10 : Int32) * ((mj_up I2 m 46 ((I2 m 46) + (1 : Int32))) m 45)) + b)) L3 r9 I10 L11 ∧ ((¬ r9 = 0 → RET (some (.int (0 : Int32))) (S, I10, L11)) ∧ (r9 = 0 → RET (some (.int (1 : Int32))) (S, I10, L11)))))) : CT mr_X9_takesOnce (0, 0) [.ref m, .int a, .int b, .int c, .int e] (S, I, L) RET := by
  refine CT.of (lo := [(0, .ref m), (1, .int a), (2, .int b), (3, .int c), (4, .int e)]) (by decide) (fun _ _ => Nat.le_of_ble_eq_true rfl) (fun _ _ => rfl) rfl ?_
  refine V.aload_n dX9_takesOnce_0 rfl rfl ?_
  refine V.iload_n dX9_takesOnce_1 rfl rfl ?_
  refine V.iload_n dX9_takesOnce_2 rfl rfl ?_
  refine V.iload_n dX9_takesOnce_3 rfl rfl ?_
  refine V.iload dX9_takesOnce_4 rfl ?_
  obtain ⟨r1, I2, L3, t4, H5⟩ := H0
  refine V.cVi (N := mr_X9_dividesBy) (as := [.int a, .int b, .int c, .int e]) dX9_takesOnce_6 ml_X9_369 ok_X9_dividesBy okV_X9_dividesBy ⟨Nat.le_of_ble_eq_true rfl, Nat.le_of_ble_eq_true rfl⟩ hm.1 rfl rfl rfl (Nat.le_of_ble_eq_true rfl) t4 ?_
  refine V.if_eq (tgt := 53) dX9_takesOnce_9 (by decide) (fun c6 => ?_) (fun c6 => ?_)
  · have H7 := H5.1 c6
    refine V.iconst (v := (1)) dX9_takesOnce_53 (by decide) ?_
    exact V.ret (v := some (.int (1 : Int32))) rfl (Or.inl ⟨_, rfl, dX9_takesOnce_54, _, rfl, (by decide)⟩) ⟨Nat.le_refl _, Nat.le_refl _⟩ H7
  · have H8 := H5.2 c6
    refine V.aload_n dX9_takesOnce_12 rfl rfl ?_
    refine V.dup dX9_takesOnce_13 rfl ?_
    refine V.getf (v := .int (I2 m 46)) dX9_takesOnce_14 fl_X9_373 hm.1 (by decide) rfl ?_
    refine V.iconst (v := (1)) dX9_takesOnce_17 (by decide) ?_
    refine V.iadd dX9_takesOnce_18 ?_
    refine V.puti dX9_takesOnce_19 fl_X9_373 fp_X9_373 (Or.inl rfl) hm.1 (by decide) rfl rfl ?_
    refine V.aload_n dX9_takesOnce_22 rfl rfl ?_
    refine V.bipush (v := (10)) dX9_takesOnce_23 (by decide) ?_
    refine V.aload_n dX9_takesOnce_25 rfl rfl ?_
    refine V.getf (v := .int ((mj_up I2 m 46 ((I2 m 46) + (1 : Int32))) m 45)) dX9_takesOnce_26 fl_X9_376 hm.1 (by decide) rfl ?_
    refine V.imul dX9_takesOnce_29 ?_
    refine V.iload_n dX9_takesOnce_30 rfl rfl ?_
    refine V.iadd dX9_takesOnce_31 ?_
    refine V.puti dX9_takesOnce_32 fl_X9_376 fp_X9_376 (Or.inl rfl) hm.1 (by decide) rfl rfl ?_
    refine V.aload_n dX9_takesOnce_35 rfl rfl ?_
    refine V.iload_n dX9_takesOnce_36 rfl rfl ?_
    refine V.iload_n dX9_takesOnce_37 rfl rfl ?_
    refine V.iload_n dX9_takesOnce_38 rfl rfl ?_
    refine V.iload dX9_takesOnce_39 rfl ?_
    obtain ⟨r9, I10, L11, t12, H13⟩ := H8
    refine V.cVi (N := mr_X9_dividesBy) (as := [.int a, .int b, .int c, .int e]) dX9_takesOnce_41 ml_X9_369 ok_X9_dividesBy okV_X9_dividesBy ⟨Nat.le_of_ble_eq_true rfl, Nat.le_of_ble_eq_true rfl⟩ hm.1 rfl rfl rfl (Nat.le_of_ble_eq_true rfl) t12 ?_
    refine V.if_ne (tgt := 51) dX9_takesOnce_44 (by decide) (fun c14 => ?_) (fun c14 => ?_)
    · have H15 := H13.1 c14
      refine V.iconst (v := (0)) dX9_takesOnce_51 (by decide) ?_
      exact V.ret (v := some (.int (0 : Int32))) rfl (Or.inl ⟨_, rfl, dX9_takesOnce_52, _, rfl, (by decide)⟩) ⟨Nat.le_refl _, Nat.le_refl _⟩ H15
    · have H16 := H13.2 c14
      refine V.iconst (v := (1)) dX9_takesOnce_47 (by decide) ?_
      refine V.goto (tgt := 52) dX9_takesOnce_48 (by decide) ?_
      exact V.ret (v := some (.int (1 : Int32))) rfl (Or.inl ⟨_, rfl, dX9_takesOnce_52, _, rfl, (by decide)⟩) ⟨Nat.le_refl _, Nat.le_refl _⟩ H16
def hd_X9_layContent_7 (S : List mjD) (RET : Option Value → mjH → Prop) (a0 : Nat) (x1 : Int32) (I : Nat → Nat → Int32) (L : Nat → Nat → Int64) : Prop := V mr_X9_layContent (0, 0) RET 7 [(0, .ref a0), (1, .int x1)] [] (S, I, L) (0, 0)
set_option maxRecDepth 100000 in
set_option maxHeartbeats 4000000 in
theorem it_X9_layContent_7 {S : List mjD} {RET : Option Value → mjH → Prop} {a0 : Nat} (h0 : is_Model S a0) {x1 : Int32} {I : Nat → Nat → Int32} {L : Nat → Nat → Int64} (H0 : (((6 : Int32) ≤ x1 → ∃ r3 I4 L5, CTi mr_X9_degreeNow [.ref a0] S I L r3 I4 L5 ∧ (vp_in r3 6) ∧ (((0 : Int64) ≤ (L5 (a0 + 10) r3.toNatClampNeg) → RET none (S, I4, mj_up L5 a0 18 (L5 a0 18))) ∧ (¬ (0 : Int64) ≤ (L5 (a0 + 10) r3.toNatClampNeg) → RET none (S, I4, mj_up L5 a0 18 (-(L5 a0 18)))))) ∧ (¬ (6 : Int32) ≤ x1 → (vp_in x1 6) ∧ ∃ r16 I17 L18, CTl mr_X9_divisor [.long (L a0 18), .long (L (a0 + 10) x1.toNatClampNeg)] S I L r16 I17 L18 ∧ ∀ y21 : Int32, y21 = x1 + 1 → hd_X9_layContent_7 S RET a0 y21 I17 (mj_up L18 a0 18 r16)))) : hd_X9_layContent_7 S RET a0 x1 I L := by
  unfold hd_X9_layContent_7
  refine V.iload_n dX9_layContent_7 rfl rfl ?_
  refine V.bipush (v := (6)) dX9_layContent_8 (by decide) ?_
  refine V.icmp_ge (tgt := 36) dX9_layContent_10 (by decide) (fun c1 => ?_) (fun c1 => ?_)
  · have H2 := H0.1 c1
    refine V.aload_n dX9_layContent_36 rfl rfl ?_
    refine V.aload_n dX9_layContent_37 rfl rfl ?_
    refine V.getf (v := .ref (a0 + 10)) dX9_layContent_38 fl_X9_39 h0.1 (by decide) rfl ?_
    refine V.aload_n dX9_layContent_41 rfl rfl ?_
    obtain ⟨r3, I4, L5, t6, H7⟩ := H2
    refine V.cVi (N := mr_X9_degreeNow) (as := []) dX9_layContent_42 ml_X9_234 ok_X9_degreeNow okV_X9_degreeNow ⟨Nat.le_of_ble_eq_true rfl, Nat.le_of_ble_eq_true rfl⟩ h0.1 rfl rfl rfl (Nat.le_of_ble_eq_true rfl) t6 ?_
    obtain ⟨o8, H9⟩ := H7
    refine V.lald dX9_layContent_45 h0.2.2.2.2.2.2.2.2.2.2.1 o8 ?_
    refine V.lconst (v := 0) dX9_layContent_46 (by decide) ?_
    refine V.lc_ge (tgt := 59) dX9_layContent_47 dX9_layContent_48 (by decide) (fun c10 => ?_) (fun c10 => ?_)
    · have H11 := H9.1 c10
      refine V.aload_n dX9_layContent_59 rfl rfl ?_
      refine V.getf (v := .long (L5 a0 18)) dX9_layContent_60 fl_X9_230 h0.1 (by decide) rfl ?_
      refine V.putl dX9_layContent_63 fl_X9_230 fp_X9_230 rfl h0.1 (by decide) ?_
      exact V.ret rfl (Or.inr (Or.inr (Or.inr ⟨rfl, dX9_layContent_66, rfl⟩))) ⟨Nat.le_refl _, Nat.le_refl _⟩ H11
    · have H12 := H9.2 c10
      refine V.aload_n dX9_layContent_51 rfl rfl ?_
      refine V.getf (v := .long (L5 a0 18)) dX9_layContent_52 fl_X9_230 h0.1 (by decide) rfl ?_
      refine V.lneg dX9_layContent_55 ?_
      refine V.goto (tgt := 63) dX9_layContent_56 (by decide) ?_
      refine V.putl dX9_layContent_63 fl_X9_230 fp_X9_230 rfl h0.1 (by decide) ?_
      exact V.ret rfl (Or.inr (Or.inr (Or.inr ⟨rfl, dX9_layContent_66, rfl⟩))) ⟨Nat.le_refl _, Nat.le_refl _⟩ H12
  · have H13 := H0.2 c1
    refine V.aload_n dX9_layContent_13 rfl rfl ?_
    refine V.aload_n dX9_layContent_14 rfl rfl ?_
    refine V.getf (v := .long (L a0 18)) dX9_layContent_15 fl_X9_230 h0.1 (by decide) rfl ?_
    refine V.aload_n dX9_layContent_18 rfl rfl ?_
    refine V.getf (v := .ref (a0 + 10)) dX9_layContent_19 fl_X9_39 h0.1 (by decide) rfl ?_
    refine V.iload_n dX9_layContent_22 rfl rfl ?_
    obtain ⟨o14, H15⟩ := H13
    refine V.lald dX9_layContent_23 h0.2.2.2.2.2.2.2.2.2.2.1 o14 ?_
    obtain ⟨r16, I17, L18, t19, H20⟩ := H15
    refine V.cSl (N := mr_X9_divisor) (as := [.long (L a0 18), .long (L (a0 + 10) x1.toNatClampNeg)]) dX9_layContent_24 ml_X9_214 ok_X9_divisor okS_X9_divisor ⟨Nat.le_of_ble_eq_true rfl, Nat.le_of_ble_eq_true rfl⟩ rfl rfl (Nat.le_of_ble_eq_true rfl) t19 ?_
    refine V.putl dX9_layContent_27 fl_X9_230 fp_X9_230 rfl h0.1 (by decide) ?_
    obtain ⟨y21, e22⟩ : ∃ y : Int32, y = x1 + 1 := ⟨_, rfl⟩
    have H23 := H20 y21 e22
    refine V.iinc (v := y21) (lo' := [(1, .int y21), (0, .ref a0)]) dX9_layContent_30 rfl (by rw [e22]; rfl) (by decide) rfl ?_
    refine V.goto (tgt := 7) dX9_layContent_33 (by decide) ?_
    exact V.los [1, 0] rfl H23
set_option maxRecDepth 100000 in
set_option maxHeartbeats 4000000 in
theorem wp_X9_layContent {S : List mjD} {RET : Option Value → mjH → Prop} {m : Nat} (hm : is_Model S m) {I : Nat → Nat → Int32} {L : Nat → Nat → Int64} (H0 : hd_X9_layContent_7 S RET m (0 : Int32) I (mj_up L m 18 (0 : Int64))) : CT mr_X9_layContent (0, 0) [.ref m] (S, I, L) RET := by
  refine CT.of (lo := [(0, .ref m)]) (by decide) (fun _ _ => Nat.le_of_ble_eq_true rfl) (fun _ _ => rfl) rfl ?_
  refine V.aload_n dX9_layContent_0 rfl rfl ?_
  refine V.lconst (v := 0) dX9_layContent_1 (by decide) ?_
  refine V.putl dX9_layContent_2 fl_X9_230 fp_X9_230 rfl hm.1 (by decide) ?_
  refine V.iconst (v := (0)) dX9_layContent_5 (by decide) ?_
  refine V.istore_n (lo' := [(1, .int (0 : Int32)), (0, .ref m)]) dX9_layContent_6 rfl (by decide) rfl ?_
  exact V.los [1, 0] rfl H0
def hd_X9_makeTurned_7 (S : List mjD) (RET : Option Value → mjH → Prop) (a0 : Nat) (x1 : Int32) (x2 : Int32) (I : Nat → Nat → Int32) (L : Nat → Nat → Int64) : Prop := V mr_X9_makeTurned (0, 0) RET 7 [(0, .ref a0), (1, .int x1), (2, .int x2)] [] (S, I, L) (0, 0)
def hd_X9_makeTurned_33 (S : List mjD) (RET : Option Value → mjH → Prop) (a0 : Nat) (x1 : Int32) (x2 : Int32) (I : Nat → Nat → Int32) (L : Nat → Nat → Int64) : Prop := V mr_X9_makeTurned (0, 0) RET 33 [(0, .ref a0), (1, .int x1), (2, .int x2)] [] (S, I, L) (0, 0)
set_option maxRecDepth 100000 in
set_option maxHeartbeats 4000000 in
theorem it_X9_makeTurned_7 {S : List mjD} {RET : Option Value → mjH → Prop} {a0 : Nat} (h0 : is_Model S a0) {x1 : Int32} {x2 : Int32} {I : Nat → Nat → Int32} {L : Nat → Nat → Int64} (H0 : (((6 : Int32) ≤ x2 → hd_X9_makeTurned_33 S RET a0 x1 (0 : Int32) I L) ∧ (¬ (6 : Int32) ≤ x2 → (vp_in x2 6) ∧ (vp_in x2 6) ∧ ∀ y13 : Int32, y13 = x2 + 1 → hd_X9_makeTurned_7 S RET a0 x1 y13 I (mj_up L (a0 + 17) x2.toNatClampNeg (L (a0 + 10) x2.toNatClampNeg))))) : hd_X9_makeTurned_7 S RET a0 x1 x2 I L := by
  unfold hd_X9_makeTurned_7
  refine V.iload_n dX9_makeTurned_7 rfl rfl ?_
  refine V.bipush (v := (6)) dX9_makeTurned_8 (by decide) ?_
  refine V.icmp_ge (tgt := 31) dX9_makeTurned_10 (by decide) (fun c6 => ?_) (fun c6 => ?_)
  · have H7 := H0.1 c6
    refine V.iconst (v := (0)) dX9_makeTurned_31 (by decide) ?_
    refine V.istore_n (lo' := [(2, .int (0 : Int32)), (0, .ref a0), (1, .int x1)]) dX9_makeTurned_32 rfl (by decide) rfl ?_
    exact V.los [1, 2, 0] rfl H7
  · have H8 := H0.2 c6
    refine V.aload_n dX9_makeTurned_13 rfl rfl ?_
    refine V.getf (v := .ref (a0 + 17)) dX9_makeTurned_14 fl_X9_60 h0.1 (by decide) rfl ?_
    refine V.iload_n dX9_makeTurned_17 rfl rfl ?_
    refine V.aload_n dX9_makeTurned_18 rfl rfl ?_
    refine V.getf (v := .ref (a0 + 10)) dX9_makeTurned_19 fl_X9_39 h0.1 (by decide) rfl ?_
    refine V.iload_n dX9_makeTurned_22 rfl rfl ?_
    obtain ⟨o9, H10⟩ := H8
    refine V.lald dX9_makeTurned_23 h0.2.2.2.2.2.2.2.2.2.2.1 o9 ?_
    obtain ⟨o11, H12⟩ := H10
    refine V.last dX9_makeTurned_24 h0.2.2.2.2.2.2.2.2.2.2.2.2.2.2.2.2.2.1 o11 ?_
    obtain ⟨y13, e14⟩ : ∃ y : Int32, y = x2 + 1 := ⟨_, rfl⟩
    have H15 := H12 y13 e14
    refine V.iinc (v := y13) (lo' := [(2, .int y13), (0, .ref a0), (1, .int x1)]) dX9_makeTurned_25 rfl (by rw [e14]; rfl) (by decide) rfl ?_
    refine V.goto (tgt := 7) dX9_makeTurned_28 (by decide) ?_
    exact V.los [1, 2, 0] rfl H15
set_option maxRecDepth 100000 in
set_option maxHeartbeats 4000000 in
theorem it_X9_makeTurned_33 {S : List mjD} {RET : Option Value → mjH → Prop} {a0 : Nat} (h0 : is_Model S a0) {x1 : Int32} {x2 : Int32} {I : Nat → Nat → Int32} {L : Nat → Nat → Int64} (H0 : (((6 : Int32) ≤ x2 → RET none (S, I, L)) ∧ (¬ (6 : Int32) ≤ x2 → ((x1 < x2 → (vp_in x2 6) ∧ ∀ y23 : Int32, y23 = x2 + 1 → hd_X9_makeTurned_33 S RET a0 x1 y23 I (mj_up L (a0 + 10) x2.toNatClampNeg (0 : Int64))) ∧ (¬ x1 < x2 → (vp_in (x1 - x2) 6) ∧ (vp_in x2 6) ∧ ∀ y31 : Int32, y31 = x2 + 1 → hd_X9_makeTurned_33 S RET a0 x1 y31 I (mj_up L (a0 + 10) x2.toNatClampNeg (L (a0 + 17) (x1 - x2).toNatClampNeg))))))) : hd_X9_makeTurned_33 S RET a0 x1 x2 I L := by
  unfold hd_X9_makeTurned_33
  refine V.iload_n dX9_makeTurned_33 rfl rfl ?_
  refine V.bipush (v := (6)) dX9_makeTurned_34 (by decide) ?_
  refine V.icmp_ge (tgt := 68) dX9_makeTurned_36 (by decide) (fun c16 => ?_) (fun c16 => ?_)
  · have H17 := H0.1 c16
    exact V.ret rfl (Or.inr (Or.inr (Or.inr ⟨rfl, dX9_makeTurned_68, rfl⟩))) ⟨Nat.le_refl _, Nat.le_refl _⟩ H17
  · have H18 := H0.2 c16
    refine V.aload_n dX9_makeTurned_39 rfl rfl ?_
    refine V.getf (v := .ref (a0 + 10)) dX9_makeTurned_40 fl_X9_39 h0.1 (by decide) rfl ?_
    refine V.iload_n dX9_makeTurned_43 rfl rfl ?_
    refine V.iload_n dX9_makeTurned_44 rfl rfl ?_
    refine V.iload_n dX9_makeTurned_45 rfl rfl ?_
    refine V.icmp_gt (tgt := 60) dX9_makeTurned_46 (by decide) (fun c19 => ?_) (fun c19 => ?_)
    · have H20 := H18.1 c19
      refine V.lconst (v := 0) dX9_makeTurned_60 (by decide) ?_
      obtain ⟨o21, H22⟩ := H20
      refine V.last dX9_makeTurned_61 h0.2.2.2.2.2.2.2.2.2.2.1 o21 ?_
      obtain ⟨y23, e24⟩ : ∃ y : Int32, y = x2 + 1 := ⟨_, rfl⟩
      have H25 := H22 y23 e24
      refine V.iinc (v := y23) (lo' := [(2, .int y23), (0, .ref a0), (1, .int x1)]) dX9_makeTurned_62 rfl (by rw [e24]; rfl) (by decide) rfl ?_
      refine V.goto (tgt := 33) dX9_makeTurned_65 (by decide) ?_
      exact V.los [1, 2, 0] rfl H25
    · have H26 := H18.2 c19
      refine V.aload_n dX9_makeTurned_49 rfl rfl ?_
      refine V.getf (v := .ref (a0 + 17)) dX9_makeTurned_50 fl_X9_60 h0.1 (by decide) rfl ?_
      refine V.iload_n dX9_makeTurned_53 rfl rfl ?_
      refine V.iload_n dX9_makeTurned_54 rfl rfl ?_
      refine V.isub dX9_makeTurned_55 ?_
      obtain ⟨o27, H28⟩ := H26
      refine V.lald dX9_makeTurned_56 h0.2.2.2.2.2.2.2.2.2.2.2.2.2.2.2.2.2.1 o27 ?_
      refine V.goto (tgt := 61) dX9_makeTurned_57 (by decide) ?_
      obtain ⟨o29, H30⟩ := H28
      refine V.last dX9_makeTurned_61 h0.2.2.2.2.2.2.2.2.2.2.1 o29 ?_
      obtain ⟨y31, e32⟩ : ∃ y : Int32, y = x2 + 1 := ⟨_, rfl⟩
      have H33 := H30 y31 e32
      refine V.iinc (v := y31) (lo' := [(2, .int y31), (0, .ref a0), (1, .int x1)]) dX9_makeTurned_62 rfl (by rw [e32]; rfl) (by decide) rfl ?_
      refine V.goto (tgt := 33) dX9_makeTurned_65 (by decide) ?_
      exact V.los [1, 2, 0] rfl H33
set_option maxRecDepth 100000 in
set_option maxHeartbeats 4000000 in
theorem wp_X9_makeTurned {S : List mjD} {RET : Option Value → mjH → Prop} {m : Nat} (hm : is_Model S m) {I : Nat → Nat → Int32} {L : Nat → Nat → Int64} (H0 : ∃ r1 I2 L3, CTi mr_X9_degreeNow [.ref m] S I L r1 I2 L3 ∧ hd_X9_makeTurned_7 S RET m r1 (0 : Int32) I2 L3) : CT mr_X9_makeTurned (0, 0) [.ref m] (S, I, L) RET := by
  refine CT.of (lo := [(0, .ref m)]) (by decide) (fun _ _ => Nat.le_of_ble_eq_true rfl) (fun _ _ => rfl) rfl ?_
  refine V.aload_n dX9_makeTurned_0 rfl rfl ?_
  obtain ⟨r1, I2, L3, t4, H5⟩ := H0
  refine V.cVi (N := mr_X9_degreeNow) (as := []) dX9_makeTurned_1 ml_X9_234 ok_X9_degreeNow okV_X9_degreeNow ⟨Nat.le_of_ble_eq_true rfl, Nat.le_of_ble_eq_true rfl⟩ hm.1 rfl rfl rfl (Nat.le_of_ble_eq_true rfl) t4 ?_
  refine V.istore_n (lo' := [(1, .int r1), (0, .ref m)]) dX9_makeTurned_4 rfl (by decide) rfl ?_
  refine V.iconst (v := (0)) dX9_makeTurned_5 (by decide) ?_
  refine V.istore_n (lo' := [(2, .int (0 : Int32)), (1, .int r1), (0, .ref m)]) dX9_makeTurned_6 rfl (by decide) rfl ?_
  exact V.los [2, 1, 0] rfl H5
set_option maxRecDepth 100000 in
set_option maxHeartbeats 4000000 in
theorem wp_X9_triesLine {S : List mjD} {RET : Option Value → mjH → Prop} {m : Nat} (hm : is_Model S m) {a : Int64} {b : Int64} {I : Nat → Nat → Int32} {L : Nat → Nat → Int64} (H0 : ∃ r1 I2 L3, CTi mr_X9_tries [.ref m] S (mj_up I m 26 (1 : Int32)) (mj_up (mj_up L (m + 15) (1 : Int32).toNatClampNeg a) (m + 15) (0 : Int32).toNatClampNeg b) r1 I2 L3 ∧ (r1 = 0 ∨ r1 = 1) ∧ RET (some (.int r1)) (S, I2, L3)) : CT mr_X9_triesLine (0, 0) [.ref m, .long a, .long b] (S, I, L) RET := by
  refine CT.of (lo := [(0, .ref m), (1, .long a), (3, .long b)]) (by decide) (fun _ _ => Nat.le_of_ble_eq_true rfl) (fun _ _ => rfl) rfl ?_
  refine V.aload_n dX9_triesLine_0 rfl rfl ?_
  refine V.iconst (v := (1)) dX9_triesLine_1 (by decide) ?_
  refine V.puti dX9_triesLine_2 fl_X9_188 fp_X9_188 (Or.inl rfl) hm.1 (by decide) rfl rfl ?_
  refine V.aload_n dX9_triesLine_5 rfl rfl ?_
  refine V.getf (v := .ref (m + 15)) dX9_triesLine_6 fl_X9_54 hm.1 (by decide) rfl ?_
  refine V.iconst (v := (1)) dX9_triesLine_9 (by decide) ?_
  refine V.lload_n dX9_triesLine_10 rfl rfl ?_
  refine V.last dX9_triesLine_11 hm.2.2.2.2.2.2.2.2.2.2.2.2.2.2.2.1 (mj_lit (by decide)) ?_
  refine V.aload_n dX9_triesLine_12 rfl rfl ?_
  refine V.getf (v := .ref (m + 15)) dX9_triesLine_13 fl_X9_54 hm.1 (by decide) rfl ?_
  refine V.iconst (v := (0)) dX9_triesLine_16 (by decide) ?_
  refine V.lload_n dX9_triesLine_17 rfl rfl ?_
  refine V.last dX9_triesLine_18 hm.2.2.2.2.2.2.2.2.2.2.2.2.2.2.2.1 (mj_lit (by decide)) ?_
  refine V.aload_n dX9_triesLine_19 rfl rfl ?_
  obtain ⟨r1, I2, L3, t4, H5⟩ := H0
  refine V.cVi (N := mr_X9_tries) (as := []) dX9_triesLine_20 ml_X9_207 ok_X9_tries okV_X9_tries ⟨Nat.le_of_ble_eq_true rfl, Nat.le_of_ble_eq_true rfl⟩ hm.1 rfl rfl rfl (Nat.le_of_ble_eq_true rfl) t4 ?_
  obtain ⟨o6, H7⟩ := H5
  exact V.ret (v := some (.int r1)) rfl (Or.inl ⟨_, rfl, dX9_triesLine_23, _, rfl, (mj_zn o6)⟩) ⟨Nat.le_refl _, Nat.le_refl _⟩ H7
def hd_X9_findBow_16 (S : List mjD) (RET : Option Value → mjH → Prop) (a0 : Nat) (x1 : Int32) (I : Nat → Nat → Int32) (L : Nat → Nat → Int64) : Prop := V mr_X9_findBow (0, 0) RET 16 [(0, .ref a0), (1, .int x1)] [] (S, I, L) (0, 0)
def hd_X9_findBow_26 (S : List mjD) (RET : Option Value → mjH → Prop) (a0 : Nat) (x1 : Int32) (x2 : Int32) (I : Nat → Nat → Int32) (L : Nat → Nat → Int64) : Prop := V mr_X9_findBow (0, 0) RET 26 [(0, .ref a0), (1, .int x1), (2, .int x2)] [] (S, I, L) (0, 0)
def hd_X9_findBow_36 (S : List mjD) (RET : Option Value → mjH → Prop) (a0 : Nat) (x1 : Int32) (x2 : Int32) (x3 : Int32) (I : Nat → Nat → Int32) (L : Nat → Nat → Int64) : Prop := V mr_X9_findBow (0, 0) RET 36 [(0, .ref a0), (1, .int x1), (2, .int x2), (3, .int x3)] [] (S, I, L) (0, 0)
set_option maxRecDepth 100000 in
set_option maxHeartbeats 4000000 in
theorem it_X9_findBow_16 {S : List mjD} {RET : Option Value → mjH → Prop} {a0 : Nat} (h0 : is_Model S a0) {x1 : Int32} {I : Nat → Nat → Int32} {L : Nat → Nat → Int64} (H0 : (((I a0 32) ≤ x1 → RET (some (.int (0 : Int32))) (S, I, L)) ∧ (¬ (I a0 32) ≤ x1 → hd_X9_findBow_26 S RET a0 x1 (0 : Int32) I L))) : hd_X9_findBow_16 S RET a0 x1 I L := by
  unfold hd_X9_findBow_16
  refine V.iload_n dX9_findBow_16 rfl rfl ?_
  refine V.aload_n dX9_findBow_17 rfl rfl ?_
  refine V.getf (v := .int (I a0 32)) dX9_findBow_18 fl_X9_218 h0.1 (by decide) rfl ?_
  refine V.icmp_ge (tgt := 167) dX9_findBow_21 (by decide) (fun c9 => ?_) (fun c9 => ?_)
  · have H10 := H0.1 c9
    refine V.iconst (v := (0)) dX9_findBow_167 (by decide) ?_
    exact V.ret (v := some (.int (0 : Int32))) rfl (Or.inl ⟨_, rfl, dX9_findBow_168, _, rfl, (by decide)⟩) ⟨Nat.le_refl _, Nat.le_refl _⟩ H10
  · have H11 := H0.2 c9
    refine V.iconst (v := (0)) dX9_findBow_24 (by decide) ?_
    refine V.istore_n (lo' := [(2, .int (0 : Int32)), (0, .ref a0), (1, .int x1)]) dX9_findBow_25 rfl (by decide) rfl ?_
    exact V.los [1, 2, 0] rfl H11
set_option maxRecDepth 100000 in
set_option maxHeartbeats 4000000 in
theorem it_X9_findBow_26 {S : List mjD} {RET : Option Value → mjH → Prop} {a0 : Nat} (h0 : is_Model S a0) {x1 : Int32} {x2 : Int32} {I : Nat → Nat → Int32} {L : Nat → Nat → Int64} (H0 : (((I a0 33) ≤ x2 → ∀ y14 : Int32, y14 = x1 + 1 → hd_X9_findBow_16 S RET a0 y14 I L) ∧ (¬ (I a0 33) ≤ x2 → hd_X9_findBow_36 S RET a0 x1 x2 (0 : Int32) I L))) : hd_X9_findBow_26 S RET a0 x1 x2 I L := by
  unfold hd_X9_findBow_26
  refine V.iload_n dX9_findBow_26 rfl rfl ?_
  refine V.aload_n dX9_findBow_27 rfl rfl ?_
  refine V.getf (v := .int (I a0 33)) dX9_findBow_28 fl_X9_221 h0.1 (by decide) rfl ?_
  refine V.icmp_ge (tgt := 161) dX9_findBow_31 (by decide) (fun c12 => ?_) (fun c12 => ?_)
  · have H13 := H0.1 c12
    obtain ⟨y14, e15⟩ : ∃ y : Int32, y = x1 + 1 := ⟨_, rfl⟩
    have H16 := H13 y14 e15
    refine V.iinc (v := y14) (lo' := [(1, .int y14), (0, .ref a0), (2, .int x2)]) dX9_findBow_161 rfl (by rw [e15]; rfl) (by decide) rfl ?_
    refine V.goto (tgt := 16) dX9_findBow_164 (by decide) ?_
    exact V.los [1, 0] rfl H16
  · have H17 := H0.2 c12
    refine V.iconst (v := (0)) dX9_findBow_34 (by decide) ?_
    refine V.istore_n (lo' := [(3, .int (0 : Int32)), (0, .ref a0), (1, .int x1), (2, .int x2)]) dX9_findBow_35 rfl (by decide) rfl ?_
    exact V.los [1, 2, 3, 0] rfl H17
set_option maxRecDepth 100000 in
set_option maxHeartbeats 4000000 in
theorem it_X9_findBow_36 {S : List mjD} {RET : Option Value → mjH → Prop} {a0 : Nat} (h0 : is_Model S a0) {x1 : Int32} {x2 : Int32} {x3 : Int32} {I : Nat → Nat → Int32} {L : Nat → Nat → Int64} (H0 : (((I a0 34) ≤ x3 → ∀ y20 : Int32, y20 = x2 + 1 → hd_X9_findBow_26 S RET a0 x1 y20 I L) ∧ (¬ (I a0 34) ≤ x3 → (vp_in x1 256) ∧ (vp_in x2 256) ∧ (vp_in x3 256) ∧ (vp_in x1 256) ∧ (vp_in x2 256) ∧ ∃ r34 I35 L36, CTl mr_X9_divisor [.long ((mj_up (mj_up (mj_up L (a0 + 15) (2 : Int32).toNatClampNeg (L (a0 + 18) x1.toNatClampNeg)) (a0 + 15) (0 : Int32).toNatClampNeg ((mj_up L (a0 + 15) (2 : Int32).toNatClampNeg (L (a0 + 18) x1.toNatClampNeg)) (a0 + 19) x2.toNatClampNeg)) (a0 + 15) (1 : Int32).toNatClampNeg ((((mj_up (mj_up L (a0 + 15) (2 : Int32).toNatClampNeg (L (a0 + 18) x1.toNatClampNeg)) (a0 + 15) (0 : Int32).toNatClampNeg ((mj_up L (a0 + 15) (2 : Int32).toNatClampNeg (L (a0 + 18) x1.toNatClampNeg)) (a0 + 19) x2.toNatClampNeg)) (a0 + 20) x3.toNatClampNeg) - ((mj_up (mj_up L (a0 + 15) (2 : Int32).toNatClampNeg (L (a0 + 18) x1.toNatClampNeg)) (a0 + 15) (0 : Int32).toNatClampNeg ((mj_up L (a0 + 15) (2 : Int32).toNatClampNeg (L (a0 + 18) x1.toNatClampNeg)) (a0 + 19) x2.toNatClampNeg)) (a0 + 18) x1.toNatClampNeg)) - ((mj_up (mj_up L (a0 + 15) (2 : Int32).toNatClampNeg (L (a0 + 18) x1.toNatClampNeg)) (a0 + 15) (0 : Int32).toNatClampNeg ((mj_up L (a0 + 15) (2 : Int32).toNatClampNeg (L (a0 + 18) x1.toNatClampNeg)) (a0 + 19) x2.toNatClampNeg)) (a0 + 19) x2.toNatClampNeg))) (a0 + 15) (2 : Int32).toNatClampNeg), .long ((mj_up (mj_up (mj_up L (a0 + 15) (2 : Int32).toNatClampNeg (L (a0 + 18) x1.toNatClampNeg)) (a0 + 15) (0 : Int32).toNatClampNeg ((mj_up L (a0 + 15) (2 : Int32).toNatClampNeg (L (a0 + 18) x1.toNatClampNeg)) (a0 + 19) x2.toNatClampNeg)) (a0 + 15) (1 : Int32).toNatClampNeg ((((mj_up (mj_up L (a0 + 15) (2 : Int32).toNatClampNeg (L (a0 + 18) x1.toNatClampNeg)) (a0 + 15) (0 : Int32).toNatClampNeg ((mj_up L (a0 + 15) (2 : Int32).toNatClampNeg (L (a0 + 18) x1.toNatClampNeg)) (a0 + 19) x2.toNatClampNeg)) (a0 + 20) x3.toNatClampNeg) - ((mj_up (mj_up L (a0 + 15) (2 : Int32).toNatClampNeg (L (a0 + 18) x1.toNatClampNeg)) (a0 + 15) (0 : Int32).toNatClampNeg ((mj_up L (a0 + 15) (2 : Int32).toNatClampNeg (L (a0 + 18) x1.toNatClampNeg)) (a0 + 19) x2.toNatClampNeg)) (a0 + 18) x1.toNatClampNeg)) - ((mj_up (mj_up L (a0 + 15) (2 : Int32).toNatClampNeg (L (a0 + 18) x1.toNatClampNeg)) (a0 + 15) (0 : Int32).toNatClampNeg ((mj_up L (a0 + 15) (2 : Int32).toNatClampNeg (L (a0 + 18) x1.toNatClampNeg)) (a0 + 19) x2.toNatClampNeg)) (a0 + 19) x2.toNatClampNeg))) (a0 + 15) (1 : Int32).toNatClampNeg)] S (mj_up I a0 26 (2 : Int32)) (mj_up (mj_up (mj_up L (a0 + 15) (2 : Int32).toNatClampNeg (L (a0 + 18) x1.toNatClampNeg)) (a0 + 15) (0 : Int32).toNatClampNeg ((mj_up L (a0 + 15) (2 : Int32).toNatClampNeg (L (a0 + 18) x1.toNatClampNeg)) (a0 + 19) x2.toNatClampNeg)) (a0 + 15) (1 : Int32).toNatClampNeg ((((mj_up (mj_up L (a0 + 15) (2 : Int32).toNatClampNeg (L (a0 + 18) x1.toNatClampNeg)) (a0 + 15) (0 : Int32).toNatClampNeg ((mj_up L (a0 + 15) (2 : Int32).toNatClampNeg (L (a0 + 18) x1.toNatClampNeg)) (a0 + 19) x2.toNatClampNeg)) (a0 + 20) x3.toNatClampNeg) - ((mj_up (mj_up L (a0 + 15) (2 : Int32).toNatClampNeg (L (a0 + 18) x1.toNatClampNeg)) (a0 + 15) (0 : Int32).toNatClampNeg ((mj_up L (a0 + 15) (2 : Int32).toNatClampNeg (L (a0 + 18) x1.toNatClampNeg)) (a0 + 19) x2.toNatClampNeg)) (a0 + 18) x1.toNatClampNeg)) - ((mj_up (mj_up L (a0 + 15) (2 : Int32).toNatClampNeg (L (a0 + 18) x1.toNatClampNeg)) (a0 + 15) (0 : Int32).toNatClampNeg ((mj_up L (a0 + 15) (2 : Int32).toNatClampNeg (L (a0 + 18) x1.toNatClampNeg)) (a0 + 19) x2.toNatClampNeg)) (a0 + 19) x2.toNatClampNeg))) r34 I35 L36 ∧ ∃ r39 I40 L41, CTl mr_X9_divisor [.long r34, .long (L36 (a0 + 15) (0 : Int32).toNatClampNeg)] S I35 L36 r39 I40 L41 ∧ ((¬ r39 = (1 : Int64) → ∀ y46 : Int32, y46 = x3 + 1 → hd_X9_findBow_36 S RET a0 x1 x2 y46 I40 L41) ∧ (r39 = (1 : Int64) → ∃ r50 I51 L52, CTi mr_X9_tries [.ref a0] S I40 L41 r50 I51 L52 ∧ ((r50 = 0 → ∀ y57 : Int32, y57 = x3 + 1 → hd_X9_findBow_36 S RET a0 x1 x2 y57 I51 L52) ∧ (¬ r50 = 0 → RET (some (.int (1 : Int32))) (S, I51, L52)))))))) : hd_X9_findBow_36 S RET a0 x1 x2 x3 I L := by
  unfold hd_X9_findBow_36
  refine V.iload_n dX9_findBow_36 rfl rfl ?_
  refine V.aload_n dX9_findBow_37 rfl rfl ?_
  refine V.getf (v := .int (I a0 34)) dX9_findBow_38 fl_X9_224 h0.1 (by decide) rfl ?_
  refine V.icmp_ge (tgt := 155) dX9_findBow_41 (by decide) (fun c18 => ?_) (fun c18 => ?_)
  · have H19 := H0.1 c18
    obtain ⟨y20, e21⟩ : ∃ y : Int32, y = x2 + 1 := ⟨_, rfl⟩
    have H22 := H19 y20 e21
    refine V.iinc (v := y20) (lo' := [(2, .int y20), (0, .ref a0), (1, .int x1), (3, .int x3)]) dX9_findBow_155 rfl (by rw [e21]; rfl) (by decide) rfl ?_
    refine V.goto (tgt := 26) dX9_findBow_158 (by decide) ?_
    exact V.los [1, 2, 0] rfl H22
  · have H23 := H0.2 c18
    refine V.aload_n dX9_findBow_44 rfl rfl ?_
    refine V.iconst (v := (2)) dX9_findBow_45 (by decide) ?_
    refine V.puti dX9_findBow_46 fl_X9_188 fp_X9_188 (Or.inl rfl) h0.1 (by decide) rfl rfl ?_
    refine V.aload_n dX9_findBow_49 rfl rfl ?_
    refine V.getf (v := .ref (a0 + 15)) dX9_findBow_50 fl_X9_54 h0.1 (by decide) rfl ?_
    refine V.iconst (v := (2)) dX9_findBow_53 (by decide) ?_
    refine V.aload_n dX9_findBow_54 rfl rfl ?_
    refine V.getf (v := .ref (a0 + 18)) dX9_findBow_55 fl_X9_63 h0.1 (by decide) rfl ?_
    refine V.iload_n dX9_findBow_58 rfl rfl ?_
    obtain ⟨o24, H25⟩ := H23
    refine V.lald dX9_findBow_59 h0.2.2.2.2.2.2.2.2.2.2.2.2.2.2.2.2.2.2.1 o24 ?_
    refine V.last dX9_findBow_60 h0.2.2.2.2.2.2.2.2.2.2.2.2.2.2.2.1 (mj_lit (by decide)) ?_
    refine V.aload_n dX9_findBow_61 rfl rfl ?_
    refine V.getf (v := .ref (a0 + 15)) dX9_findBow_62 fl_X9_54 h0.1 (by decide) rfl ?_
    refine V.iconst (v := (0)) dX9_findBow_65 (by decide) ?_
    refine V.aload_n dX9_findBow_66 rfl rfl ?_
    refine V.getf (v := .ref (a0 + 19)) dX9_findBow_67 fl_X9_66 h0.1 (by decide) rfl ?_
    refine V.iload_n dX9_findBow_70 rfl rfl ?_
    obtain ⟨o26, H27⟩ := H25
    refine V.lald dX9_findBow_71 h0.2.2.2.2.2.2.2.2.2.2.2.2.2.2.2.2.2.2.2.1 o26 ?_
    refine V.last dX9_findBow_72 h0.2.2.2.2.2.2.2.2.2.2.2.2.2.2.2.1 (mj_lit (by decide)) ?_
    refine V.aload_n dX9_findBow_73 rfl rfl ?_
    refine V.getf (v := .ref (a0 + 15)) dX9_findBow_74 fl_X9_54 h0.1 (by decide) rfl ?_
    refine V.iconst (v := (1)) dX9_findBow_77 (by decide) ?_
    refine V.aload_n dX9_findBow_78 rfl rfl ?_
    refine V.getf (v := .ref (a0 + 20)) dX9_findBow_79 fl_X9_69 h0.1 (by decide) rfl ?_
    refine V.iload_n dX9_findBow_82 rfl rfl ?_
    obtain ⟨o28, H29⟩ := H27
    refine V.lald dX9_findBow_83 h0.2.2.2.2.2.2.2.2.2.2.2.2.2.2.2.2.2.2.2.2.1 o28 ?_
    refine V.aload_n dX9_findBow_84 rfl rfl ?_
    refine V.getf (v := .ref (a0 + 18)) dX9_findBow_85 fl_X9_63 h0.1 (by decide) rfl ?_
    refine V.iload_n dX9_findBow_88 rfl rfl ?_
    obtain ⟨o30, H31⟩ := H29
    refine V.lald dX9_findBow_89 h0.2.2.2.2.2.2.2.2.2.2.2.2.2.2.2.2.2.2.1 o30 ?_
    refine V.lsub dX9_findBow_90 ?_
    refine V.aload_n dX9_findBow_91 rfl rfl ?_
    refine V.getf (v := .ref (a0 + 19)) dX9_findBow_92 fl_X9_66 h0.1 (by decide) rfl ?_
    refine V.iload_n dX9_findBow_95 rfl rfl ?_
    obtain ⟨o32, H33⟩ := H31
    refine V.lald dX9_findBow_96 h0.2.2.2.2.2.2.2.2.2.2.2.2.2.2.2.2.2.2.2.1 o32 ?_
    refine V.lsub dX9_findBow_97 ?_
    refine V.last dX9_findBow_98 h0.2.2.2.2.2.2.2.2.2.2.2.2.2.2.2.1 (mj_lit (by decide)) ?_
    refine V.aload_n dX9_findBow_99 rfl rfl ?_
    refine V.getf (v := .ref (a0 + 15)) dX9_findBow_100 fl_X9_54 h0.1 (by decide) rfl ?_
    refine V.iconst (v := (2)) dX9_findBow_103 (by decide) ?_
    refine V.lald dX9_findBow_104 h0.2.2.2.2.2.2.2.2.2.2.2.2.2.2.2.1 (mj_lit (by decide)) ?_
    refine V.aload_n dX9_findBow_105 rfl rfl ?_
    refine V.getf (v := .ref (a0 + 15)) dX9_findBow_106 fl_X9_54 h0.1 (by decide) rfl ?_
    refine V.iconst (v := (1)) dX9_findBow_109 (by decide) ?_
    refine V.lald dX9_findBow_110 h0.2.2.2.2.2.2.2.2.2.2.2.2.2.2.2.1 (mj_lit (by decide)) ?_
    obtain ⟨r34, I35, L36, t37, H38⟩ := H33
    refine V.cSl (N := mr_X9_divisor) (as := [.long ((mj_up (mj_up (mj_up L (a0 + 15) (2 : Int32).toNatClampNeg (L (a0 + 18) x1.toNatClampNeg)) (a0 + 15) (0 : Int32).toNatClampNeg ((mj_up L (a0 + 15) (2 : Int32).toNatClampNeg (L (a0 + 18) x1.toNatClampNeg)) (a0 + 19) x2.toNatClampNeg)) (a0 + 15) (1 : Int32).toNatClampNeg ((((mj_up (mj_up L (a0 + 15) (2 : Int32).toNatClampNeg (L (a0 + 18) x1.toNatClampNeg)) (a0 + 15) (0 : Int32).toNatClampNeg ((mj_up L (a0 + 15) (2 : Int32).toNatClampNeg (L (a0 + 18) x1.toNatClampNeg)) (a0 + 19) x2.toNatClampNeg)) (a0 + 20) x3.toNatClampNeg) - ((mj_up (mj_up L (a0 + 15) (2 : Int32).toNatClampNeg (L (a0 + 18) x1.toNatClampNeg)) (a0 + 15) (0 : Int32).toNatClampNeg ((mj_up L (a0 + 15) (2 : Int32).toNatClampNeg (L (a0 + 18) x1.toNatClampNeg)) (a0 + 19) x2.toNatClampNeg)) (a0 + 18) x1.toNatClampNeg)) - ((mj_up (mj_up L (a0 + 15) (2 : Int32).toNatClampNeg (L (a0 + 18) x1.toNatClampNeg)) (a0 + 15) (0 : Int32).toNatClampNeg ((mj_up L (a0 + 15) (2 : Int32).toNatClampNeg (L (a0 + 18) x1.toNatClampNeg)) (a0 + 19) x2.toNatClampNeg)) (a0 + 19) x2.toNatClampNeg))) (a0 + 15) (2 : Int32).toNatClampNeg), .long ((mj_up (mj_up (mj_up L (a0 + 15) (2 : Int32).toNatClampNeg (L (a0 + 18) x1.toNatClampNeg)) (a0 + 15) (0 : Int32).toNatClampNeg ((mj_up L (a0 + 15) (2 : Int32).toNatClampNeg (L (a0 + 18) x1.toNatClampNeg)) (a0 + 19) x2.toNatClampNeg)) (a0 + 15) (1 : Int32).toNatClampNeg ((((mj_up (mj_up L (a0 + 15) (2 : Int32).toNatClampNeg (L (a0 + 18) x1.toNatClampNeg)) (a0 + 15) (0 : Int32).toNatClampNeg ((mj_up L (a0 + 15) (2 : Int32).toNatClampNeg (L (a0 + 18) x1.toNatClampNeg)) (a0 + 19) x2.toNatClampNeg)) (a0 + 20) x3.toNatClampNeg) - ((mj_up (mj_up L (a0 + 15) (2 : Int32).toNatClampNeg (L (a0 + 18) x1.toNatClampNeg)) (a0 + 15) (0 : Int32).toNatClampNeg ((mj_up L (a0 + 15) (2 : Int32).toNatClampNeg (L (a0 + 18) x1.toNatClampNeg)) (a0 + 19) x2.toNatClampNeg)) (a0 + 18) x1.toNatClampNeg)) - ((mj_up (mj_up L (a0 + 15) (2 : Int32).toNatClampNeg (L (a0 + 18) x1.toNatClampNeg)) (a0 + 15) (0 : Int32).toNatClampNeg ((mj_up L (a0 + 15) (2 : Int32).toNatClampNeg (L (a0 + 18) x1.toNatClampNeg)) (a0 + 19) x2.toNatClampNeg)) (a0 + 19) x2.toNatClampNeg))) (a0 + 15) (1 : Int32).toNatClampNeg)]) dX9_findBow_111 ml_X9_214 ok_X9_divisor okS_X9_divisor ⟨Nat.le_of_ble_eq_true rfl, Nat.le_of_ble_eq_true rfl⟩ rfl rfl (Nat.le_of_ble_eq_true rfl) t37 ?_
    refine V.aload_n dX9_findBow_114 rfl rfl ?_
    refine V.getf (v := .ref (a0 + 15)) dX9_findBow_115 fl_X9_54 h0.1 (by decide) rfl ?_
    refine V.iconst (v := (0)) dX9_findBow_118 (by decide) ?_
    refine V.lald dX9_findBow_119 h0.2.2.2.2.2.2.2.2.2.2.2.2.2.2.2.1 (mj_lit (by decide)) ?_
    obtain ⟨r39, I40, L41, t42, H43⟩ := H38
    refine V.cSl (N := mr_X9_divisor) (as := [.long r34, .long (L36 (a0 + 15) (0 : Int32).toNatClampNeg)]) dX9_findBow_120 ml_X9_214 ok_X9_divisor okS_X9_divisor ⟨Nat.le_of_ble_eq_true rfl, Nat.le_of_ble_eq_true rfl⟩ rfl rfl (Nat.le_of_ble_eq_true rfl) t42 ?_
    refine V.lconst (v := 1) dX9_findBow_123 (by decide) ?_
    refine V.lc_ne (tgt := 132) dX9_findBow_124 dX9_findBow_125 (by decide) (fun c44 => ?_) (fun c44 => ?_)
    · have H45 := H43.1 c44
      refine V.iconst (v := (0)) dX9_findBow_132 (by decide) ?_
      refine V.istore (lo' := [(4, .int (0 : Int32)), (0, .ref a0), (1, .int x1), (2, .int x2), (3, .int x3)]) dX9_findBow_133 (by decide) rfl ?_
      refine V.iload dX9_findBow_135 rfl ?_
      refine V.if_eq (tgt := 149) dX9_findBow_137 (by decide) (fun _ => ?_) (fun c => absurd c (by decide))
      obtain ⟨y46, e47⟩ : ∃ y : Int32, y = x3 + 1 := ⟨_, rfl⟩
      have H48 := H45 y46 e47
      refine V.iinc (v := y46) (lo' := [(3, .int y46), (4, .int (0 : Int32)), (0, .ref a0), (1, .int x1), (2, .int x2)]) dX9_findBow_149 rfl (by rw [e47]; rfl) (by decide) rfl ?_
      refine V.goto (tgt := 36) dX9_findBow_152 (by decide) ?_
      exact V.los [2, 3, 4, 0] rfl H48
    · have H49 := H43.2 c44
      refine V.iconst (v := (1)) dX9_findBow_128 (by decide) ?_
      refine V.goto (tgt := 133) dX9_findBow_129 (by decide) ?_
      refine V.istore (lo' := [(4, .int (1 : Int32)), (0, .ref a0), (1, .int x1), (2, .int x2), (3, .int x3)]) dX9_findBow_133 (by decide) rfl ?_
      refine V.iload dX9_findBow_135 rfl ?_
      refine V.if_eq (tgt := 149) dX9_findBow_137 (by decide) (fun c => absurd c (by decide)) (fun _ => ?_)
      refine V.aload_n dX9_findBow_140 rfl rfl ?_
      obtain ⟨r50, I51, L52, t53, H54⟩ := H49
      refine V.cVi (N := mr_X9_tries) (as := []) dX9_findBow_141 ml_X9_207 ok_X9_tries okV_X9_tries ⟨Nat.le_of_ble_eq_true rfl, Nat.le_of_ble_eq_true rfl⟩ h0.1 rfl rfl rfl (Nat.le_of_ble_eq_true rfl) t53 ?_
      refine V.if_eq (tgt := 149) dX9_findBow_144 (by decide) (fun c55 => ?_) (fun c55 => ?_)
      · have H56 := H54.1 c55
        obtain ⟨y57, e58⟩ : ∃ y : Int32, y = x3 + 1 := ⟨_, rfl⟩
        have H59 := H56 y57 e58
        refine V.iinc (v := y57) (lo' := [(3, .int y57), (4, .int (1 : Int32)), (0, .ref a0), (1, .int x1), (2, .int x2)]) dX9_findBow_149 rfl (by rw [e58]; rfl) (by decide) rfl ?_
        refine V.goto (tgt := 36) dX9_findBow_152 (by decide) ?_
        exact V.los [2, 3, 4, 0] rfl H59
      · have H60 := H54.2 c55
        refine V.iconst (v := (1)) dX9_findBow_147 (by decide) ?_
        exact V.ret (v := some (.int (1 : Int32))) rfl (Or.inl ⟨_, rfl, dX9_findBow_148, _, rfl, (by decide)⟩) ⟨Nat.le_refl _, Nat.le_refl _⟩ H60
set_option maxRecDepth 100000 in
set_option maxHeartbeats 4000000 in
theorem wp_X9_findBow {S : List mjD} {RET : Option Value → mjH → Prop} {m : Nat} (hm : is_Model S m) {I : Nat → Nat → Int32} {L : Nat → Nat → Int64} (H0 : (((4 : Int32) ≤ (I m 24) → ∃ I4 L5, CTv mr_X9_layDivisors [.ref m] S I L I4 L5 ∧ hd_X9_findBow_16 S RET m (0 : Int32) I4 L5) ∧ (¬ (4 : Int32) ≤ (I m 24) → RET (some (.int (0 : Int32))) (S, I, L)))) : CT mr_X9_findBow (0, 0) [.ref m] (S, I, L) RET := by
  refine CT.of (lo := [(0, .ref m)]) (by decide) (fun _ _ => Nat.le_of_ble_eq_true rfl) (fun _ _ => rfl) rfl ?_
  refine V.aload_n dX9_findBow_0 rfl rfl ?_
  refine V.getf (v := .int (I m 24)) dX9_findBow_1 fl_X9_185 hm.1 (by decide) rfl ?_
  refine V.iconst (v := (4)) dX9_findBow_4 (by decide) ?_
  refine V.icmp_ge (tgt := 10) dX9_findBow_5 (by decide) (fun c1 => ?_) (fun c1 => ?_)
  · have H2 := H0.1 c1
    refine V.aload_n dX9_findBow_10 rfl rfl ?_
    obtain ⟨I4, L5, t6, H7⟩ := H2
    refine V.cVv (N := mr_X9_layDivisors) (as := []) dX9_findBow_11 ml_X9_227 ok_X9_layDivisors okV_X9_layDivisors ⟨Nat.le_of_ble_eq_true rfl, Nat.le_of_ble_eq_true rfl⟩ hm.1 rfl rfl rfl (Nat.le_of_ble_eq_true rfl) t6 ?_
    refine V.iconst (v := (0)) dX9_findBow_14 (by decide) ?_
    refine V.istore_n (lo' := [(1, .int (0 : Int32)), (0, .ref m)]) dX9_findBow_15 rfl (by decide) rfl ?_
    exact V.los [1, 0] rfl H7
  · have H8 := H0.2 c1
    refine V.iconst (v := (0)) dX9_findBow_8 (by decide) ?_
    exact V.ret (v := some (.int (0 : Int32))) rfl (Or.inl ⟨_, rfl, dX9_findBow_9, _, rfl, (by decide)⟩) ⟨Nat.le_refl _, Nat.le_refl _⟩ H8
set_option maxRecDepth 100000 in
set_option maxHeartbeats 4000000 in
theorem wp_X9_number {S : List mjD} {RET : Option Value → mjH → Prop} {m : Nat} (hm : is_Model S m) {a : Int32} {b : Int32} {I : Nat → Nat → Int32} {L : Nat → Nat → Int64} (H0 : ∃ r1 I2 L3, CTi mr_X9_isFilled [.ref m, .int a] S I L r1 I2 L3 ∧ ((¬ r1 = 0 → ∃ r8 I9 L10, CTi mr_X9_within [.long b.toInt64, .long (0 : Int64), .long (5 : Int64)] S I2 L3 r8 I9 L10 ∧ ((r8 = 0 → RET (some (.int (-102 : Int32))) (S, I9, L10)) ∧ (¬ r8 = 0 → ∃ r16 I17 L18, CTi mr_X9_numberNow [.ref m, .int a, .int b] S I9 L10 r16 I17 L18 ∧ RET (some (.int r16)) (S, I17, L18)))) ∧ (r1 = 0 → RET (some (.int (-101 : Int32))) (S, I2, L3)))) : CT mr_X9_number (0, 0) [.ref m, .int a, .int b] (S, I, L) RET := by
  refine CT.of (lo := [(0, .ref m), (1, .int a), (2, .int b)]) (by decide) (fun _ _ => Nat.le_of_ble_eq_true rfl) (fun _ _ => rfl) rfl ?_
  refine V.aload_n dX9_number_0 rfl rfl ?_
  refine V.iload_n dX9_number_1 rfl rfl ?_
  obtain ⟨r1, I2, L3, t4, H5⟩ := H0
  refine V.cVi (N := mr_X9_isFilled) (as := [.int a]) dX9_number_2 ml_X9_299 ok_X9_isFilled okV_X9_isFilled ⟨Nat.le_of_ble_eq_true rfl, Nat.le_of_ble_eq_true rfl⟩ hm.1 rfl rfl rfl (Nat.le_of_ble_eq_true rfl) t4 ?_
  refine V.if_ne (tgt := 13) dX9_number_5 (by decide) (fun c6 => ?_) (fun c6 => ?_)
  · have H7 := H5.1 c6
    refine V.iload_n dX9_number_13 rfl rfl ?_
    refine V.i2l dX9_number_14 ?_
    refine V.lconst (v := 0) dX9_number_15 (by decide) ?_
    refine V.ldc2 kc_X9_332 dX9_number_16 ?_
    obtain ⟨r8, I9, L10, t11, H12⟩ := H7
    refine V.cSi (N := mr_X9_within) (as := [.long b.toInt64, .long (0 : Int64), .long (5 : Int64)]) dX9_number_19 ml_X9_116 ok_X9_within okS_X9_within ⟨Nat.le_of_ble_eq_true rfl, Nat.le_of_ble_eq_true rfl⟩ rfl rfl (Nat.le_of_ble_eq_true rfl) t11 ?_
    refine V.if_eq (tgt := 34) dX9_number_22 (by decide) (fun c13 => ?_) (fun c13 => ?_)
    · have H14 := H12.1 c13
      refine V.bipush (v := (-102)) dX9_number_34 (by decide) ?_
      exact V.ret (v := some (.int (-102 : Int32))) rfl (Or.inl ⟨_, rfl, dX9_number_36, _, rfl, rfl⟩) ⟨Nat.le_refl _, Nat.le_refl _⟩ H14
    · have H15 := H12.2 c13
      refine V.aload_n dX9_number_25 rfl rfl ?_
      refine V.iload_n dX9_number_26 rfl rfl ?_
      refine V.iload_n dX9_number_27 rfl rfl ?_
      obtain ⟨r16, I17, L18, t19, H20⟩ := H15
      refine V.cVi (N := mr_X9_numberNow) (as := [.int a, .int b]) dX9_number_28 ml_X9_334 ok_X9_numberNow okV_X9_numberNow ⟨Nat.le_of_ble_eq_true rfl, Nat.le_of_ble_eq_true rfl⟩ hm.1 rfl rfl rfl (Nat.le_of_ble_eq_true rfl) t19 ?_
      refine V.goto (tgt := 36) dX9_number_31 (by decide) ?_
      exact V.ret (v := some (.int r16)) rfl (Or.inl ⟨_, rfl, dX9_number_36, _, rfl, rfl⟩) ⟨Nat.le_refl _, Nat.le_refl _⟩ H20
  · have H21 := H5.2 c6
    refine V.bipush (v := (-101)) dX9_number_8 (by decide) ?_
    refine V.goto (tgt := 36) dX9_number_10 (by decide) ?_
    exact V.ret (v := some (.int (-101 : Int32))) rfl (Or.inl ⟨_, rfl, dX9_number_36, _, rfl, rfl⟩) ⟨Nat.le_refl _, Nat.le_refl _⟩ H21
set_option maxRecDepth 100000 in
set_option maxHeartbeats 4000000 in
theorem wp_X9_value {S : List mjD} {RET : Option Value → mjH → Prop} {m : Nat} (hm : is_Model S m) {a : Int32} {b : Int32} {I : Nat → Nat → Int32} {L : Nat → Nat → Int64} (H0 : ∃ r1 I2 L3, CTi mr_X9_isFilled [.ref m, .int a] S I L r1 I2 L3 ∧ ((¬ r1 = 0 → ∃ r8 I9 L10, CTi mr_X9_within [.long b.toInt64, .long (-9 : Int64), .long (9 : Int64)] S I2 L3 r8 I9 L10 ∧ ((r8 = 0 → RET (some (.long (-102 : Int64))) (S, I9, L10)) ∧ (¬ r8 = 0 → ∃ r16 I17 L18, CTl mr_X9_valueNow [.ref m, .int a, .int b] S I9 L10 r16 I17 L18 ∧ RET (some (.long r16)) (S, I17, L18)))) ∧ (r1 = 0 → RET (some (.long (-101 : Int64))) (S, I2, L3)))) : CT mr_X9_value (0, 0) [.ref m, .int a, .int b] (S, I, L) RET := by
  refine CT.of (lo := [(0, .ref m), (1, .int a), (2, .int b)]) (by decide) (fun _ _ => Nat.le_of_ble_eq_true rfl) (fun _ _ => rfl) rfl ?_
  refine V.aload_n dX9_value_0 rfl rfl ?_
  refine V.iload_n dX9_value_1 rfl rfl ?_
  obtain ⟨r1, I2, L3, t4, H5⟩ := H0
  refine V.cVi (N := mr_X9_isFilled) (as := [.int a]) dX9_value_2 ml_X9_299 ok_X9_isFilled okV_X9_isFilled ⟨Nat.le_of_ble_eq_true rfl, Nat.le_of_ble_eq_true rfl⟩ hm.1 rfl rfl rfl (Nat.le_of_ble_eq_true rfl) t4 ?_
  refine V.if_ne (tgt := 14) dX9_value_5 (by decide) (fun c6 => ?_) (fun c6 => ?_)
  · have H7 := H5.1 c6
    refine V.iload_n dX9_value_14 rfl rfl ?_
    refine V.i2l dX9_value_15 ?_
    refine V.ldc2 kc_X9_343 dX9_value_16 ?_
    refine V.ldc2 kc_X9_293 dX9_value_19 ?_
    obtain ⟨r8, I9, L10, t11, H12⟩ := H7
    refine V.cSi (N := mr_X9_within) (as := [.long b.toInt64, .long (-9 : Int64), .long (9 : Int64)]) dX9_value_22 ml_X9_116 ok_X9_within okS_X9_within ⟨Nat.le_of_ble_eq_true rfl, Nat.le_of_ble_eq_true rfl⟩ rfl rfl (Nat.le_of_ble_eq_true rfl) t11 ?_
    refine V.if_eq (tgt := 37) dX9_value_25 (by decide) (fun c13 => ?_) (fun c13 => ?_)
    · have H14 := H12.1 c13
      refine V.ldc2 kc_X9_349 dX9_value_37 ?_
      exact V.ret (v := some (.long (-102 : Int64))) rfl (Or.inr (Or.inl ⟨_, rfl, dX9_value_40, rfl⟩)) ⟨Nat.le_refl _, Nat.le_refl _⟩ H14
    · have H15 := H12.2 c13
      refine V.aload_n dX9_value_28 rfl rfl ?_
      refine V.iload_n dX9_value_29 rfl rfl ?_
      refine V.iload_n dX9_value_30 rfl rfl ?_
      obtain ⟨r16, I17, L18, t19, H20⟩ := H15
      refine V.cVl (N := mr_X9_valueNow) (as := [.int a, .int b]) dX9_value_31 ml_X9_345 ok_X9_valueNow okV_X9_valueNow ⟨Nat.le_of_ble_eq_true rfl, Nat.le_of_ble_eq_true rfl⟩ hm.1 rfl rfl rfl (Nat.le_of_ble_eq_true rfl) t19 ?_
      refine V.goto (tgt := 40) dX9_value_34 (by decide) ?_
      exact V.ret (v := some (.long r16)) rfl (Or.inr (Or.inl ⟨_, rfl, dX9_value_40, rfl⟩)) ⟨Nat.le_refl _, Nat.le_refl _⟩ H20
  · have H21 := H5.2 c6
    refine V.ldc2 kc_X9_341 dX9_value_8 ?_
    refine V.goto (tgt := 40) dX9_value_11 (by decide) ?_
    exact V.ret (v := some (.long (-101 : Int64))) rfl (Or.inr (Or.inl ⟨_, rfl, dX9_value_40, rfl⟩)) ⟨Nat.le_refl _, Nat.le_refl _⟩ H21
set_option maxRecDepth 100000 in
set_option maxHeartbeats 4000000 in
theorem wp_X9_letters {S : List mjD} {RET : Option Value → mjH → Prop} {m : Nat} (hm : is_Model S m) {a : Int32} {I : Nat → Nat → Int32} {L : Nat → Nat → Int64} (H0 : ∃ r1 I2 L3, CTi mr_X9_isFilled [.ref m, .int a] S I L r1 I2 L3 ∧ ((¬ r1 = 0 → ∃ I9 L10, CTv mr_X9_layText [.ref m, .int a] S I2 L3 I9 L10 ∧ RET (some (.int (I9 m 36))) (S, I9, L10)) ∧ (r1 = 0 → RET (some (.int (0 : Int32))) (S, I2, L3)))) : CT mr_X9_letters (0, 0) [.ref m, .int a] (S, I, L) RET := by
  refine CT.of (lo := [(0, .ref m), (1, .int a)]) (by decide) (fun _ _ => Nat.le_of_ble_eq_true rfl) (fun _ _ => rfl) rfl ?_
  refine V.aload_n dX9_letters_0 rfl rfl ?_
  refine V.iload_n dX9_letters_1 rfl rfl ?_
  obtain ⟨r1, I2, L3, t4, H5⟩ := H0
  refine V.cVi (N := mr_X9_isFilled) (as := [.int a]) dX9_letters_2 ml_X9_299 ok_X9_isFilled okV_X9_isFilled ⟨Nat.le_of_ble_eq_true rfl, Nat.le_of_ble_eq_true rfl⟩ hm.1 rfl rfl rfl (Nat.le_of_ble_eq_true rfl) t4 ?_
  refine V.if_ne (tgt := 10) dX9_letters_5 (by decide) (fun c6 => ?_) (fun c6 => ?_)
  · have H7 := H5.1 c6
    refine V.aload_n dX9_letters_10 rfl rfl ?_
    refine V.iload_n dX9_letters_11 rfl rfl ?_
    obtain ⟨I9, L10, t11, H12⟩ := H7
    refine V.cVv (N := mr_X9_layText) (as := [.int a]) dX9_letters_12 ml_X9_302 ok_X9_layText okV_X9_layText ⟨Nat.le_of_ble_eq_true rfl, Nat.le_of_ble_eq_true rfl⟩ hm.1 rfl rfl rfl (Nat.le_of_ble_eq_true rfl) t11 ?_
    refine V.aload_n dX9_letters_15 rfl rfl ?_
    refine V.getf (v := .int (I9 m 36)) dX9_letters_16 fl_X9_283 hm.1 (by decide) rfl ?_
    exact V.ret (v := some (.int (I9 m 36))) rfl (Or.inl ⟨_, rfl, dX9_letters_19, _, rfl, rfl⟩) ⟨Nat.le_refl _, Nat.le_refl _⟩ H12
  · have H13 := H5.2 c6
    refine V.iconst (v := (0)) dX9_letters_8 (by decide) ?_
    exact V.ret (v := some (.int (0 : Int32))) rfl (Or.inl ⟨_, rfl, dX9_letters_9, _, rfl, rfl⟩) ⟨Nat.le_refl _, Nat.le_refl _⟩ H13
set_option maxRecDepth 100000 in
set_option maxHeartbeats 4000000 in
theorem wp_X9_text {S : List mjD} {RET : Option Value → mjH → Prop} {m : Nat} (hm : is_Model S m) {a : Int32} {b : Int32} {I : Nat → Nat → Int32} {L : Nat → Nat → Int64} (H0 : ∃ r1 I2 L3, CTi mr_X9_isFilled [.ref m, .int a] S I L r1 I2 L3 ∧ ((¬ r1 = 0 → ∃ I9 L10, CTv mr_X9_layText [.ref m, .int a] S I2 L3 I9 L10 ∧ ∃ r13 I14 L15, CTi mr_X9_within [.long b.toInt64, .long (0 : Int64), .long (((I9 m 36) - (1 : Int32)).toInt64)] S I9 L10 r13 I14 L15 ∧ ((r13 = 0 → RET (some (.int (-101 : Int32))) (S, I14, L15)) ∧ (¬ r13 = 0 → (vp_in b 64) ∧ RET (some (.int (I14 (m + 22) b.toNatClampNeg))) (S, I14, L15)))) ∧ (r1 = 0 → RET (some (.int (-101 : Int32))) (S, I2, L3)))) : CT mr_X9_text (0, 0) [.ref m, .int a, .int b] (S, I, L) RET := by
  refine CT.of (lo := [(0, .ref m), (1, .int a), (2, .int b)]) (by decide) (fun _ _ => Nat.le_of_ble_eq_true rfl) (fun _ _ => rfl) rfl ?_
  refine V.aload_n dX9_text_0 rfl rfl ?_
  refine V.iload_n dX9_text_1 rfl rfl ?_
  obtain ⟨r1, I2, L3, t4, H5⟩ := H0
  refine V.cVi (N := mr_X9_isFilled) (as := [.int a]) dX9_text_2 ml_X9_299 ok_X9_isFilled okV_X9_isFilled ⟨Nat.le_of_ble_eq_true rfl, Nat.le_of_ble_eq_true rfl⟩ hm.1 rfl rfl rfl (Nat.le_of_ble_eq_true rfl) t4 ?_
  refine V.if_ne (tgt := 11) dX9_text_5 (by decide) (fun c6 => ?_) (fun c6 => ?_)
  · have H7 := H5.1 c6
    refine V.aload_n dX9_text_11 rfl rfl ?_
    refine V.iload_n dX9_text_12 rfl rfl ?_
    obtain ⟨I9, L10, t11, H12⟩ := H7
    refine V.cVv (N := mr_X9_layText) (as := [.int a]) dX9_text_13 ml_X9_302 ok_X9_layText okV_X9_layText ⟨Nat.le_of_ble_eq_true rfl, Nat.le_of_ble_eq_true rfl⟩ hm.1 rfl rfl rfl (Nat.le_of_ble_eq_true rfl) t11 ?_
    refine V.iload_n dX9_text_16 rfl rfl ?_
    refine V.i2l dX9_text_17 ?_
    refine V.lconst (v := 0) dX9_text_18 (by decide) ?_
    refine V.aload_n dX9_text_19 rfl rfl ?_
    refine V.getf (v := .int (I9 m 36)) dX9_text_20 fl_X9_283 hm.1 (by decide) rfl ?_
    refine V.iconst (v := (1)) dX9_text_23 (by decide) ?_
    refine V.isub dX9_text_24 ?_
    refine V.i2l dX9_text_25 ?_
    obtain ⟨r13, I14, L15, t16, H17⟩ := H12
    refine V.cSi (N := mr_X9_within) (as := [.long b.toInt64, .long (0 : Int64), .long (((I9 m 36) - (1 : Int32)).toInt64)]) dX9_text_26 ml_X9_116 ok_X9_within okS_X9_within ⟨Nat.le_of_ble_eq_true rfl, Nat.le_of_ble_eq_true rfl⟩ rfl rfl (Nat.le_of_ble_eq_true rfl) t16 ?_
    refine V.if_eq (tgt := 41) dX9_text_29 (by decide) (fun c18 => ?_) (fun c18 => ?_)
    · have H19 := H17.1 c18
      refine V.bipush (v := (-101)) dX9_text_41 (by decide) ?_
      exact V.ret (v := some (.int (-101 : Int32))) rfl (Or.inl ⟨_, rfl, dX9_text_43, _, rfl, rfl⟩) ⟨Nat.le_refl _, Nat.le_refl _⟩ H19
    · have H20 := H17.2 c18
      refine V.aload_n dX9_text_32 rfl rfl ?_
      refine V.getf (v := .ref (m + 22)) dX9_text_33 fl_X9_75 hm.1 (by decide) rfl ?_
      refine V.iload_n dX9_text_36 rfl rfl ?_
      obtain ⟨o21, H22⟩ := H20
      refine V.iald dX9_text_37 hm.2.2.2.2.2.2.2.2.2.2.2.2.2.2.2.2.2.2.2.2.2.2.1 o21 ?_
      refine V.goto (tgt := 43) dX9_text_38 (by decide) ?_
      exact V.ret (v := some (.int (I14 (m + 22) b.toNatClampNeg))) rfl (Or.inl ⟨_, rfl, dX9_text_43, _, rfl, rfl⟩) ⟨Nat.le_refl _, Nat.le_refl _⟩ H22
  · have H23 := H5.2 c6
    refine V.bipush (v := (-101)) dX9_text_8 (by decide) ?_
    exact V.ret (v := some (.int (-101 : Int32))) rfl (Or.inl ⟨_, rfl, dX9_text_10, _, rfl, rfl⟩) ⟨Nat.le_refl _, Nat.le_refl _⟩ H23
def hd_X9_makePure_6 (S : List mjD) (RET : Option Value → mjH → Prop) (a0 : Nat) (x1 : Int32) (I : Nat → Nat → Int32) (L : Nat → Nat → Int64) : Prop := V mr_X9_makePure (0, 0) RET 6 [(0, .ref a0), (1, .int x1)] [] (S, I, L) (0, 0)
set_option maxRecDepth 100000 in
set_option maxHeartbeats 4000000 in
theorem it_X9_makePure_6 {S : List mjD} {RET : Option Value → mjH → Prop} {a0 : Nat} (h0 : is_Model S a0) {x1 : Int32} {I : Nat → Nat → Int32} {L : Nat → Nat → Int64} (H0 : (((6 : Int32) ≤ x1 → RET none (S, I, L)) ∧ (¬ (6 : Int32) ≤ x1 → (vp_in x1 6) ∧ (¬ (L a0 18) = 0) ∧ (vp_in x1 6) ∧ ∀ y15 : Int32, y15 = x1 + 1 → hd_X9_makePure_6 S RET a0 y15 I (mj_up L (a0 + 10) x1.toNatClampNeg ((L (a0 + 10) x1.toNatClampNeg) / (L a0 18)))))) : hd_X9_makePure_6 S RET a0 x1 I L := by
  unfold hd_X9_makePure_6
  refine V.iload_n dX9_makePure_6 rfl rfl ?_
  refine V.bipush (v := (6)) dX9_makePure_7 (by decide) ?_
  refine V.icmp_ge (tgt := 31) dX9_makePure_9 (by decide) (fun c6 => ?_) (fun c6 => ?_)
  · have H7 := H0.1 c6
    exact V.ret rfl (Or.inr (Or.inr (Or.inr ⟨rfl, dX9_makePure_31, rfl⟩))) ⟨Nat.le_refl _, Nat.le_refl _⟩ H7
  · have H8 := H0.2 c6
    refine V.aload_n dX9_makePure_12 rfl rfl ?_
    refine V.getf (v := .ref (a0 + 10)) dX9_makePure_13 fl_X9_39 h0.1 (by decide) rfl ?_
    refine V.iload_n dX9_makePure_16 rfl rfl ?_
    refine V.dup2 dX9_makePure_17 rfl rfl ?_
    obtain ⟨o9, H10⟩ := H8
    refine V.lald dX9_makePure_18 h0.2.2.2.2.2.2.2.2.2.2.1 o9 ?_
    refine V.aload_n dX9_makePure_19 rfl rfl ?_
    refine V.getf (v := .long (L a0 18)) dX9_makePure_20 fl_X9_230 h0.1 (by decide) rfl ?_
    obtain ⟨o11, H12⟩ := H10
    refine V.ldiv dX9_makePure_23 o11 ?_
    obtain ⟨o13, H14⟩ := H12
    refine V.last dX9_makePure_24 h0.2.2.2.2.2.2.2.2.2.2.1 o13 ?_
    obtain ⟨y15, e16⟩ : ∃ y : Int32, y = x1 + 1 := ⟨_, rfl⟩
    have H17 := H14 y15 e16
    refine V.iinc (v := y15) (lo' := [(1, .int y15), (0, .ref a0)]) dX9_makePure_25 rfl (by rw [e16]; rfl) (by decide) rfl ?_
    refine V.goto (tgt := 6) dX9_makePure_28 (by decide) ?_
    exact V.los [1, 0] rfl H17
set_option maxRecDepth 100000 in
set_option maxHeartbeats 4000000 in
theorem wp_X9_makePure {S : List mjD} {RET : Option Value → mjH → Prop} {m : Nat} (hm : is_Model S m) {I : Nat → Nat → Int32} {L : Nat → Nat → Int64} (H0 : ∃ I2 L3, CTv mr_X9_layContent [.ref m] S I L I2 L3 ∧ hd_X9_makePure_6 S RET m (0 : Int32) I2 L3) : CT mr_X9_makePure (0, 0) [.ref m] (S, I, L) RET := by
  refine CT.of (lo := [(0, .ref m)]) (by decide) (fun _ _ => Nat.le_of_ble_eq_true rfl) (fun _ _ => rfl) rfl ?_
  refine V.aload_n dX9_makePure_0 rfl rfl ?_
  obtain ⟨I2, L3, t4, H5⟩ := H0
  refine V.cVv (N := mr_X9_layContent) (as := []) dX9_makePure_1 ml_X9_240 ok_X9_layContent okV_X9_layContent ⟨Nat.le_of_ble_eq_true rfl, Nat.le_of_ble_eq_true rfl⟩ hm.1 rfl rfl rfl (Nat.le_of_ble_eq_true rfl) t4 ?_
  refine V.iconst (v := (0)) dX9_makePure_4 (by decide) ?_
  refine V.istore_n (lo' := [(1, .int (0 : Int32)), (0, .ref m)]) dX9_makePure_5 rfl (by decide) rfl ?_
  exact V.los [1, 0] rfl H5
set_option maxRecDepth 100000 in
set_option maxHeartbeats 4000000 in
theorem wp_X9_contentTold {S : List mjD} {RET : Option Value → mjH → Prop} {m : Nat} (hm : is_Model S m) {a : Int32} {I : Nat → Nat → Int32} {L : Nat → Nat → Int64} (H0 : ∃ I2 L3, CTv mr_X9_laySlot [.ref m, .int a] S I L I2 L3 ∧ ∃ I7 L8, CTv mr_X9_layContent [.ref m] S I2 L3 I7 L8 ∧ RET (some (.int ((L8 m 18).toInt32 + (1000 : Int32)))) (S, I7, L8)) : CT mr_X9_contentTold (0, 0) [.ref m, .int a] (S, I, L) RET := by
  refine CT.of (lo := [(0, .ref m), (1, .int a)]) (by decide) (fun _ _ => Nat.le_of_ble_eq_true rfl) (fun _ _ => rfl) rfl ?_
  refine V.aload_n dX9_contentTold_0 rfl rfl ?_
  refine V.iload_n dX9_contentTold_1 rfl rfl ?_
  obtain ⟨I2, L3, t4, H5⟩ := H0
  refine V.cVv (N := mr_X9_laySlot) (as := [.int a]) dX9_contentTold_2 ml_X9_305 ok_X9_laySlot okV_X9_laySlot ⟨Nat.le_of_ble_eq_true rfl, Nat.le_of_ble_eq_true rfl⟩ hm.1 rfl rfl rfl (Nat.le_of_ble_eq_true rfl) t4 ?_
  refine V.aload_n dX9_contentTold_5 rfl rfl ?_
  obtain ⟨I7, L8, t9, H10⟩ := H5
  refine V.cVv (N := mr_X9_layContent) (as := []) dX9_contentTold_6 ml_X9_240 ok_X9_layContent okV_X9_layContent ⟨Nat.le_of_ble_eq_true rfl, Nat.le_of_ble_eq_true rfl⟩ hm.1 rfl rfl rfl (Nat.le_of_ble_eq_true rfl) t9 ?_
  refine V.aload_n dX9_contentTold_9 rfl rfl ?_
  refine V.getf (v := .long (L8 m 18)) dX9_contentTold_10 fl_X9_230 hm.1 (by decide) rfl ?_
  refine V.l2i dX9_contentTold_13 ?_
  refine V.sipush (v := (1000)) dX9_contentTold_14 (by decide) ?_
  refine V.iadd dX9_contentTold_17 ?_
  exact V.ret (v := some (.int ((L8 m 18).toInt32 + (1000 : Int32)))) rfl (Or.inl ⟨_, rfl, dX9_contentTold_18, _, rfl, rfl⟩) ⟨Nat.le_refl _, Nat.le_refl _⟩ H10
def hd_X9_layParts_53 (S : List mjD) (RET : Option Value → mjH → Prop) (a0 : Nat) (x1 : Int32) (x2 : Int32) (x3 : Int32) (I : Nat → Nat → Int32) (L : Nat → Nat → Int64) : Prop := V mr_X9_layParts (0, 0) RET 53 [(0, .ref a0), (1, .int x1), (2, .int x2), (3, .int x3)] [] (S, I, L) (0, 0)
def hd_X9_layParts_88 (S : List mjD) (RET : Option Value → mjH → Prop) (a0 : Nat) (x2 : Int32) (x3 : Int32) (I : Nat → Nat → Int32) (L : Nat → Nat → Int64) : Prop := V mr_X9_layParts (0, 0) RET 88 [(0, .ref a0), (2, .int x2), (3, .int x3)] [] (S, I, L) (0, 0)
def hd_X9_layParts_114 (S : List mjD) (RET : Option Value → mjH → Prop) (a0 : Nat) (x2 : Int32) (x3 : Int32) (I : Nat → Nat → Int32) (L : Nat → Nat → Int64) : Prop := V mr_X9_layParts (0, 0) RET 114 [(0, .ref a0), (2, .int x2), (3, .int x3)] [] (S, I, L) (0, 0)
set_option maxRecDepth 100000 in
set_option maxHeartbeats 4000000 in
theorem it_X9_layParts_53 {S : List mjD} {RET : Option Value → mjH → Prop} {a0 : Nat} (h0 : is_Model S a0) {x1 : Int32} {x2 : Int32} {x3 : Int32} {I : Nat → Nat → Int32} {L : Nat → Nat → Int64} (H0 : (((6 : Int32) ≤ x3 → hd_X9_layParts_88 S RET a0 x2 (0 : Int32) I L) ∧ (¬ (6 : Int32) ≤ x3 → (vp_in (((6 : Int32) * x1) + x3) 24) ∧ ∃ r21 I22 L23, CTi mr_X9_rest [.long (L (a0 + 2) (((6 : Int32) * x1) + x3).toNatClampNeg), .int x2] S I L r21 I22 L23 ∧ (vp_in x3 6) ∧ ∀ y28 : Int32, y28 = x3 + 1 → hd_X9_layParts_53 S RET a0 x1 x2 y28 (mj_up I22 (a0 + 25) x3.toNatClampNeg r21) L23))) : hd_X9_layParts_53 S RET a0 x1 x2 x3 I L := by
  unfold hd_X9_layParts_53
  refine V.iload_n dX9_layParts_53 rfl rfl ?_
  refine V.bipush (v := (6)) dX9_layParts_54 (by decide) ?_
  refine V.icmp_ge (tgt := 86) dX9_layParts_56 (by decide) (fun c16 => ?_) (fun c16 => ?_)
  · have H17 := H0.1 c16
    refine V.iconst (v := (0)) dX9_layParts_86 (by decide) ?_
    refine V.istore_n (lo' := [(3, .int (0 : Int32)), (0, .ref a0), (1, .int x1), (2, .int x2)]) dX9_layParts_87 rfl (by decide) rfl ?_
    exact V.los [1, 3, 0] rfl H17
  · have H18 := H0.2 c16
    refine V.aload_n dX9_layParts_59 rfl rfl ?_
    refine V.getf (v := .ref (a0 + 25)) dX9_layParts_60 fl_X9_84 h0.1 (by decide) rfl ?_
    refine V.iload_n dX9_layParts_63 rfl rfl ?_
    refine V.aload_n dX9_layParts_64 rfl rfl ?_
    refine V.getf (v := .ref (a0 + 2)) dX9_layParts_65 fl_X9_13 h0.1 (by decide) rfl ?_
    refine V.bipush (v := (6)) dX9_layParts_68 (by decide) ?_
    refine V.iload_n dX9_layParts_70 rfl rfl ?_
    refine V.imul dX9_layParts_71 ?_
    refine V.iload_n dX9_layParts_72 rfl rfl ?_
    refine V.iadd dX9_layParts_73 ?_
    obtain ⟨o19, H20⟩ := H18
    refine V.lald dX9_layParts_74 h0.2.2.1 o19 ?_
    refine V.iload_n dX9_layParts_75 rfl rfl ?_
    obtain ⟨r21, I22, L23, t24, H25⟩ := H20
    refine V.cSi (N := mr_X9_rest) (as := [.long (L (a0 + 2) (((6 : Int32) * x1) + x3).toNatClampNeg), .int x2]) dX9_layParts_76 ml_X9_366 ok_X9_rest okS_X9_rest ⟨Nat.le_of_ble_eq_true rfl, Nat.le_of_ble_eq_true rfl⟩ rfl rfl (Nat.le_of_ble_eq_true rfl) t24 ?_
    obtain ⟨o26, H27⟩ := H25
    refine V.iast dX9_layParts_79 h0.2.2.2.2.2.2.2.2.2.2.2.2.2.2.2.2.2.2.2.2.2.2.2.2.2.1 o26 ?_
    obtain ⟨y28, e29⟩ : ∃ y : Int32, y = x3 + 1 := ⟨_, rfl⟩
    have H30 := H27 y28 e29
    refine V.iinc (v := y28) (lo' := [(3, .int y28), (0, .ref a0), (1, .int x1), (2, .int x2)]) dX9_layParts_80 rfl (by rw [e29]; rfl) (by decide) rfl ?_
    refine V.goto (tgt := 53) dX9_layParts_83 (by decide) ?_
    exact V.los [1, 2, 3, 0] rfl H30
set_option maxRecDepth 100000 in
set_option maxHeartbeats 4000000 in
theorem it_X9_layParts_88 {S : List mjD} {RET : Option Value → mjH → Prop} {a0 : Nat} (h0 : is_Model S a0) {x2 : Int32} {x3 : Int32} {I : Nat → Nat → Int32} {L : Nat → Nat → Int64} (H0 : ((x2 ≤ x3 → hd_X9_layParts_114 S RET a0 x2 (0 : Int32) I L) ∧ (¬ x2 ≤ x3 → ∃ r34 I35 L36, CTi mr_X9_takesOnce [.ref a0, .int x2, .int (1 : Int32), .int (0 : Int32), .int x3] S I L r34 I35 L36 ∧ ((¬ r34 = 0 → ∀ y41 : Int32, y41 = x3 + 1 → hd_X9_layParts_88 S RET a0 x2 y41 I35 L36) ∧ (r34 = 0 → RET (some (.int (0 : Int32))) (S, I35, L36)))))) : hd_X9_layParts_88 S RET a0 x2 x3 I L := by
  unfold hd_X9_layParts_88
  refine V.iload_n dX9_layParts_88 rfl rfl ?_
  refine V.iload_n dX9_layParts_89 rfl rfl ?_
  refine V.icmp_ge (tgt := 112) dX9_layParts_90 (by decide) (fun c31 => ?_) (fun c31 => ?_)
  · have H32 := H0.1 c31
    refine V.iconst (v := (0)) dX9_layParts_112 (by decide) ?_
    refine V.istore_n (lo' := [(3, .int (0 : Int32)), (0, .ref a0), (2, .int x2)]) dX9_layParts_113 rfl (by decide) rfl ?_
    exact V.los [1, 2, 0] rfl H32
  · have H33 := H0.2 c31
    refine V.aload_n dX9_layParts_93 rfl rfl ?_
    refine V.iload_n dX9_layParts_94 rfl rfl ?_
    refine V.iconst (v := (1)) dX9_layParts_95 (by decide) ?_
    refine V.iconst (v := (0)) dX9_layParts_96 (by decide) ?_
    refine V.iload_n dX9_layParts_97 rfl rfl ?_
    obtain ⟨r34, I35, L36, t37, H38⟩ := H33
    refine V.cVi (N := mr_X9_takesOnce) (as := [.int x2, .int (1 : Int32), .int (0 : Int32), .int x3]) dX9_layParts_98 ml_X9_379 ok_X9_takesOnce okV_X9_takesOnce ⟨Nat.le_of_ble_eq_true rfl, Nat.le_of_ble_eq_true rfl⟩ h0.1 rfl rfl rfl (Nat.le_of_ble_eq_true rfl) t37 ?_
    refine V.if_ne (tgt := 106) dX9_layParts_101 (by decide) (fun c39 => ?_) (fun c39 => ?_)
    · have H40 := H38.1 c39
      obtain ⟨y41, e42⟩ : ∃ y : Int32, y = x3 + 1 := ⟨_, rfl⟩
      have H43 := H40 y41 e42
      refine V.iinc (v := y41) (lo' := [(3, .int y41), (0, .ref a0), (2, .int x2)]) dX9_layParts_106 rfl (by rw [e42]; rfl) (by decide) rfl ?_
      refine V.goto (tgt := 88) dX9_layParts_109 (by decide) ?_
      exact V.los [1, 2, 0] rfl H43
    · have H44 := H38.2 c39
      refine V.iconst (v := (0)) dX9_layParts_104 (by decide) ?_
      exact V.ret (v := some (.int (0 : Int32))) rfl (Or.inl ⟨_, rfl, dX9_layParts_105, _, rfl, (by decide)⟩) ⟨Nat.le_refl _, Nat.le_refl _⟩ H44
set_option maxRecDepth 100000 in
set_option maxHeartbeats 4000000 in
theorem it_X9_layParts_114 {S : List mjD} {RET : Option Value → mjH → Prop} {a0 : Nat} (h0 : is_Model S a0) {x2 : Int32} {x3 : Int32} {I : Nat → Nat → Int32} {L : Nat → Nat → Int64} (H0 : (((x2 * x2) ≤ x3 → (((I a0 44) ≤ 0 → RET (some (.int (1 : Int32))) (S, I, L)) ∧ (¬ (I a0 44) ≤ 0 → RET (some (.int (1 : Int32))) (S, mj_up (mj_up I a0 46 ((I a0 46) + (1 : Int32))) a0 45 (((10 : Int32) * ((mj_up I a0 46 ((I a0 46) + (1 : Int32))) a0 45)) + ((mj_up I a0 46 ((I a0 46) + (1 : Int32))) a0 44)), L)))) ∧ (¬ (x2 * x2) ≤ x3 → (¬ x2 = 0) ∧ (¬ x2 = 0) ∧ ∃ r55 I56 L57, CTi mr_X9_takesOnce [.ref a0, .int x2, .int (2 : Int32), .int (x3 / x2), .int (x3 - x3 / x2 * x2)] S I L r55 I56 L57 ∧ ((¬ r55 = 0 → ∀ y62 : Int32, y62 = x3 + 1 → hd_X9_layParts_114 S RET a0 x2 y62 I56 L57) ∧ (r55 = 0 → RET (some (.int (0 : Int32))) (S, I56, L57)))))) : hd_X9_layParts_114 S RET a0 x2 x3 I L := by
  unfold hd_X9_layParts_114
  refine V.iload_n dX9_layParts_114 rfl rfl ?_
  refine V.iload_n dX9_layParts_115 rfl rfl ?_
  refine V.iload_n dX9_layParts_116 rfl rfl ?_
  refine V.imul dX9_layParts_117 ?_
  refine V.icmp_ge (tgt := 144) dX9_layParts_118 (by decide) (fun c45 => ?_) (fun c45 => ?_)
  · have H46 := H0.1 c45
    refine V.aload_n dX9_layParts_144 rfl rfl ?_
    refine V.getf (v := .int (I a0 44)) dX9_layParts_145 fl_X9_363 h0.1 (by decide) rfl ?_
    refine V.if_le (tgt := 177) dX9_layParts_148 (by decide) (fun c47 => ?_) (fun c47 => ?_)
    · have H48 := H46.1 c47
      refine V.iconst (v := (1)) dX9_layParts_177 (by decide) ?_
      exact V.ret (v := some (.int (1 : Int32))) rfl (Or.inl ⟨_, rfl, dX9_layParts_178, _, rfl, (by decide)⟩) ⟨Nat.le_refl _, Nat.le_refl _⟩ H48
    · have H49 := H46.2 c47
      refine V.aload_n dX9_layParts_151 rfl rfl ?_
      refine V.dup dX9_layParts_152 rfl ?_
      refine V.getf (v := .int (I a0 46)) dX9_layParts_153 fl_X9_373 h0.1 (by decide) rfl ?_
      refine V.iconst (v := (1)) dX9_layParts_156 (by decide) ?_
      refine V.iadd dX9_layParts_157 ?_
      refine V.puti dX9_layParts_158 fl_X9_373 fp_X9_373 (Or.inl rfl) h0.1 (by decide) rfl rfl ?_
      refine V.aload_n dX9_layParts_161 rfl rfl ?_
      refine V.bipush (v := (10)) dX9_layParts_162 (by decide) ?_
      refine V.aload_n dX9_layParts_164 rfl rfl ?_
      refine V.getf (v := .int ((mj_up I a0 46 ((I a0 46) + (1 : Int32))) a0 45)) dX9_layParts_165 fl_X9_376 h0.1 (by decide) rfl ?_
      refine V.imul dX9_layParts_168 ?_
      refine V.aload_n dX9_layParts_169 rfl rfl ?_
      refine V.getf (v := .int ((mj_up I a0 46 ((I a0 46) + (1 : Int32))) a0 44)) dX9_layParts_170 fl_X9_363 h0.1 (by decide) rfl ?_
      refine V.iadd dX9_layParts_173 ?_
      refine V.puti dX9_layParts_174 fl_X9_376 fp_X9_376 (Or.inl rfl) h0.1 (by decide) rfl rfl ?_
      refine V.iconst (v := (1)) dX9_layParts_177 (by decide) ?_
      exact V.ret (v := some (.int (1 : Int32))) rfl (Or.inl ⟨_, rfl, dX9_layParts_178, _, rfl, (by decide)⟩) ⟨Nat.le_refl _, Nat.le_refl _⟩ H49
  · have H50 := H0.2 c45
    refine V.aload_n dX9_layParts_121 rfl rfl ?_
    refine V.iload_n dX9_layParts_122 rfl rfl ?_
    refine V.iconst (v := (2)) dX9_layParts_123 (by decide) ?_
    refine V.iload_n dX9_layParts_124 rfl rfl ?_
    refine V.iload_n dX9_layParts_125 rfl rfl ?_
    obtain ⟨o51, H52⟩ := H50
    refine V.idiv dX9_layParts_126 o51 ?_
    refine V.iload_n dX9_layParts_127 rfl rfl ?_
    refine V.iload_n dX9_layParts_128 rfl rfl ?_
    obtain ⟨o53, H54⟩ := H52
    refine V.irem dX9_layParts_129 o53 ?_
    obtain ⟨r55, I56, L57, t58, H59⟩ := H54
    refine V.cVi (N := mr_X9_takesOnce) (as := [.int x2, .int (2 : Int32), .int (x3 / x2), .int (x3 - x3 / x2 * x2)]) dX9_layParts_130 ml_X9_379 ok_X9_takesOnce okV_X9_takesOnce ⟨Nat.le_of_ble_eq_true rfl, Nat.le_of_ble_eq_true rfl⟩ h0.1 rfl rfl rfl (Nat.le_of_ble_eq_true rfl) t58 ?_
    refine V.if_ne (tgt := 138) dX9_layParts_133 (by decide) (fun c60 => ?_) (fun c60 => ?_)
    · have H61 := H59.1 c60
      obtain ⟨y62, e63⟩ : ∃ y : Int32, y = x3 + 1 := ⟨_, rfl⟩
      have H64 := H61 y62 e63
      refine V.iinc (v := y62) (lo' := [(3, .int y62), (0, .ref a0), (2, .int x2)]) dX9_layParts_138 rfl (by rw [e63]; rfl) (by decide) rfl ?_
      refine V.goto (tgt := 114) dX9_layParts_141 (by decide) ?_
      exact V.los [1, 2, 0] rfl H64
    · have H65 := H59.2 c60
      refine V.iconst (v := (0)) dX9_layParts_136 (by decide) ?_
      exact V.ret (v := some (.int (0 : Int32))) rfl (Or.inl ⟨_, rfl, dX9_layParts_137, _, rfl, (by decide)⟩) ⟨Nat.le_refl _, Nat.le_refl _⟩ H65
set_option maxRecDepth 100000 in
set_option maxHeartbeats 4000000 in
theorem wp_X9_layParts {S : List mjD} {RET : Option Value → mjH → Prop} {m : Nat} (hm : is_Model S m) {a : Int32} {b : Int32} {I : Nat → Nat → Int32} {L : Nat → Nat → Int64} (H0 : (vp_in a 4) ∧ ((((mj_up (mj_up (mj_up I m 45 (0 : Int32)) m 46 (0 : Int32)) m 44 ((mj_up (mj_up I m 45 (0 : Int32)) m 46 (0 : Int32)) (m + 3) a.toNatClampNeg)) m 44) < (1 : Int32) → RET (some (.int (0 : Int32))) (S, mj_up (mj_up (mj_up I m 45 (0 : Int32)) m 46 (0 : Int32)) m 44 ((mj_up (mj_up I m 45 (0 : Int32)) m 46 (0 : Int32)) (m + 3) a.toNatClampNeg), L)) ∧ (¬ ((mj_up (mj_up (mj_up I m 45 (0 : Int32)) m 46 (0 : Int32)) m 44 ((mj_up (mj_up I m 45 (0 : Int32)) m 46 (0 : Int32)) (m + 3) a.toNatClampNeg)) m 44) < (1 : Int32) → (vp_in (((6 : Int32) * a) + ((mj_up (mj_up (mj_up I m 45 (0 : Int32)) m 46 (0 : Int32)) m 44 ((mj_up (mj_up I m 45 (0 : Int32)) m 46 (0 : Int32)) (m + 3) a.toNatClampNeg)) m 44)) 24) ∧ ∃ r8 I9 L10, CTi mr_X9_rest [.long (L (m + 2) (((6 : Int32) * a) + ((mj_up (mj_up (mj_up I m 45 (0 : Int32)) m 46 (0 : Int32)) m 44 ((mj_up (mj_up I m 45 (0 : Int32)) m 46 (0 : Int32)) (m + 3) a.toNatClampNeg)) m 44)).toNatClampNeg), .int b] S (mj_up (mj_up (mj_up I m 45 (0 : Int32)) m 46 (0 : Int32)) m 44 ((mj_up (mj_up I m 45 (0 : Int32)) m 46 (0 : Int32)) (m + 3) a.toNatClampNeg)) L r8 I9 L10 ∧ ((¬ r8 = 0 → hd_X9_layParts_53 S RET m a b (0 : Int32) I9 L10) ∧ (r8 = 0 → RET (some (.int (0 : Int32))) (S, I9, L10)))))) : CT mr_X9_layParts (0, 0) [.ref m, .int a, .int b] (S, I, L) RET := by
  refine CT.of (lo := [(0, .ref m), (1, .int a), (2, .int b)]) (by decide) (fun _ _ => Nat.le_of_ble_eq_true rfl) (fun _ _ => rfl) rfl ?_
  refine V.aload_n dX9_layParts_0 rfl rfl ?_
  refine V.iconst (v := (0)) dX9_layParts_1 (by decide) ?_
  refine V.puti dX9_layParts_2 fl_X9_376 fp_X9_376 (Or.inl rfl) hm.1 (by decide) rfl rfl ?_
  refine V.aload_n dX9_layParts_5 rfl rfl ?_
  refine V.iconst (v := (0)) dX9_layParts_6 (by decide) ?_
  refine V.puti dX9_layParts_7 fl_X9_373 fp_X9_373 (Or.inl rfl) hm.1 (by decide) rfl rfl ?_
  refine V.aload_n dX9_layParts_10 rfl rfl ?_
  refine V.aload_n dX9_layParts_11 rfl rfl ?_
  refine V.getf (v := .ref (m + 3)) dX9_layParts_12 fl_X9_17 hm.1 (by decide) rfl ?_
  refine V.iload_n dX9_layParts_15 rfl rfl ?_
  obtain ⟨o1, H2⟩ := H0
  refine V.iald dX9_layParts_16 hm.2.2.2.1 o1 ?_
  refine V.puti dX9_layParts_17 fl_X9_363 fp_X9_363 (Or.inl rfl) hm.1 (by decide) rfl rfl ?_
  refine V.aload_n dX9_layParts_20 rfl rfl ?_
  refine V.getf (v := .int ((mj_up (mj_up (mj_up I m 45 (0 : Int32)) m 46 (0 : Int32)) m 44 ((mj_up (mj_up I m 45 (0 : Int32)) m 46 (0 : Int32)) (m + 3) a.toNatClampNeg)) m 44)) dX9_layParts_21 fl_X9_363 hm.1 (by decide) rfl ?_
  refine V.iconst (v := (1)) dX9_layParts_24 (by decide) ?_
  refine V.icmp_lt (tgt := 49) dX9_layParts_25 (by decide) (fun c3 => ?_) (fun c3 => ?_)
  · have H4 := H2.1 c3
    refine V.iconst (v := (0)) dX9_layParts_49 (by decide) ?_
    exact V.ret (v := some (.int (0 : Int32))) rfl (Or.inl ⟨_, rfl, dX9_layParts_50, _, rfl, (by decide)⟩) ⟨Nat.le_refl _, Nat.le_refl _⟩ H4
  · have H5 := H2.2 c3
    refine V.aload_n dX9_layParts_28 rfl rfl ?_
    refine V.getf (v := .ref (m + 2)) dX9_layParts_29 fl_X9_13 hm.1 (by decide) rfl ?_
    refine V.bipush (v := (6)) dX9_layParts_32 (by decide) ?_
    refine V.iload_n dX9_layParts_34 rfl rfl ?_
    refine V.imul dX9_layParts_35 ?_
    refine V.aload_n dX9_layParts_36 rfl rfl ?_
    refine V.getf (v := .int ((mj_up (mj_up (mj_up I m 45 (0 : Int32)) m 46 (0 : Int32)) m 44 ((mj_up (mj_up I m 45 (0 : Int32)) m 46 (0 : Int32)) (m + 3) a.toNatClampNeg)) m 44)) dX9_layParts_37 fl_X9_363 hm.1 (by decide) rfl ?_
    refine V.iadd dX9_layParts_40 ?_
    obtain ⟨o6, H7⟩ := H5
    refine V.lald dX9_layParts_41 hm.2.2.1 o6 ?_
    refine V.iload_n dX9_layParts_42 rfl rfl ?_
    obtain ⟨r8, I9, L10, t11, H12⟩ := H7
    refine V.cSi (N := mr_X9_rest) (as := [.long (L (m + 2) (((6 : Int32) * a) + ((mj_up (mj_up (mj_up I m 45 (0 : Int32)) m 46 (0 : Int32)) m 44 ((mj_up (mj_up I m 45 (0 : Int32)) m 46 (0 : Int32)) (m + 3) a.toNatClampNeg)) m 44)).toNatClampNeg), .int b]) dX9_layParts_43 ml_X9_366 ok_X9_rest okS_X9_rest ⟨Nat.le_of_ble_eq_true rfl, Nat.le_of_ble_eq_true rfl⟩ rfl rfl (Nat.le_of_ble_eq_true rfl) t11 ?_
    refine V.if_ne (tgt := 51) dX9_layParts_46 (by decide) (fun c13 => ?_) (fun c13 => ?_)
    · have H14 := H12.1 c13
      refine V.iconst (v := (0)) dX9_layParts_51 (by decide) ?_
      refine V.istore_n (lo' := [(3, .int (0 : Int32)), (0, .ref m), (1, .int a), (2, .int b)]) dX9_layParts_52 rfl (by decide) rfl ?_
      exact V.los [1, 2, 3, 0] rfl H14
    · have H15 := H12.2 c13
      refine V.iconst (v := (0)) dX9_layParts_49 (by decide) ?_
      exact V.ret (v := some (.int (0 : Int32))) rfl (Or.inl ⟨_, rfl, dX9_layParts_50, _, rfl, (by decide)⟩) ⟨Nat.le_refl _, Nat.le_refl _⟩ H15
def hd_X9_readTerm_8 (S : List mjD) (RET : Option Value → mjH → Prop) (a0 : Nat) (x2 : Int32) (x3 : Int32) (x4 : Int64) (x6 : Int32) (I : Nat → Nat → Int32) (L : Nat → Nat → Int64) : Prop := V mr_X9_readTerm (0, 0) RET 8 [(0, .ref a0), (2, .int x2), (3, .int x3), (4, .long x4), (6, .int x6)] [] (S, I, L) (0, 0)
set_option maxRecDepth 100000 in
set_option maxHeartbeats 4000000 in
theorem it_X9_readTerm_8 {S : List mjD} {RET : Option Value → mjH → Prop} {a0 : Nat} (h0 : is_Model S a0) {x2 : Int32} {x3 : Int32} {x4 : Int64} {x6 : Int32} {I : Nat → Nat → Int32} {L : Nat → Nat → Int64} (H0 : (((3 : Int32) ≤ x6 → ((x2 = 0 → ∃ r5 I6 L7, CTi mr_X9_at [.ref a0, .int x3] S I L r5 I6 L7 ∧ ((¬ r5 = (120 : Int32) → ((¬ x6 = 0 → RET (some (.int x3)) (S, mj_up I6 a0 13 (0 : Int32), mj_up L7 (a0 + 8) (0 : Int32).toNatClampNeg ((1 : Int64) * x4))) ∧ (x6 = 0 → ∃ r15 I16 L17, CTi mr_X9_broken [.ref a0, .int x3] S I6 L7 r15 I16 L17 ∧ RET (some (.int r15)) (S, I16, L17)))) ∧ (r5 = (120 : Int32) → (((I6 a0 13) < (2 : Int32) → ∃ r23 I24 L25, CTi mr_X9_broken [.ref a0, .int x3] S I6 L7 r23 I24 L25 ∧ RET (some (.int r23)) (S, I24, L25)) ∧ (¬ (I6 a0 13) < (2 : Int32) → ((x6 ≤ 0 → ((¬ x6 = 0 → ∃ r33 I34 L35, CTi mr_X9_readPower [.ref a0, .int (x3 + (1 : Int32)), .long ((1 : Int64) * x4)] S I6 L7 r33 I34 L35 ∧ RET (some (.int r33)) (S, I34, L35)) ∧ (x6 = 0 → ∃ r39 I40 L41, CTi mr_X9_readPower [.ref a0, .int (x3 + (1 : Int32)), .long ((1 : Int64) * (1 : Int64))] S I6 L7 r39 I40 L41 ∧ RET (some (.int r39)) (S, I40, L41)))) ∧ (¬ x6 ≤ 0 → ((¬ x4 = (1 : Int64) → ((¬ x6 = 0 → ∃ r49 I50 L51, CTi mr_X9_readPower [.ref a0, .int (x3 + (1 : Int32)), .long ((1 : Int64) * x4)] S I6 L7 r49 I50 L51 ∧ RET (some (.int r49)) (S, I50, L51)) ∧ (x6 = 0 → ∃ r55 I56 L57, CTi mr_X9_readPower [.ref a0, .int (x3 + (1 : Int32)), .long ((1 : Int64) * (1 : Int64))] S I6 L7 r55 I56 L57 ∧ RET (some (.int r55)) (S, I56, L57)))) ∧ (x4 = (1 : Int64) → ∃ r61 I62 L63, CTi mr_X9_broken [.ref a0, .int x3] S I6 L7 r61 I62 L63 ∧ RET (some (.int r61)) (S, I62, L63)))))))))) ∧ (¬ x2 = 0 → ∃ r67 I68 L69, CTi mr_X9_at [.ref a0, .int x3] S I L r67 I68 L69 ∧ ((¬ r67 = (120 : Int32) → ((¬ x6 = 0 → RET (some (.int x3)) (S, mj_up I68 a0 13 (0 : Int32), mj_up L69 (a0 + 8) (0 : Int32).toNatClampNeg ((-1 : Int64) * x4))) ∧ (x6 = 0 → ∃ r77 I78 L79, CTi mr_X9_broken [.ref a0, .int x3] S I68 L69 r77 I78 L79 ∧ RET (some (.int r77)) (S, I78, L79)))) ∧ (r67 = (120 : Int32) → (((I68 a0 13) < (2 : Int32) → ∃ r85 I86 L87, CTi mr_X9_broken [.ref a0, .int x3] S I68 L69 r85 I86 L87 ∧ RET (some (.int r85)) (S, I86, L87)) ∧ (¬ (I68 a0 13) < (2 : Int32) → ((x6 ≤ 0 → ((¬ x6 = 0 → ∃ r95 I96 L97, CTi mr_X9_readPower [.ref a0, .int (x3 + (1 : Int32)), .long ((-1 : Int64) * x4)] S I68 L69 r95 I96 L97 ∧ RET (some (.int r95)) (S, I96, L97)) ∧ (x6 = 0 → ∃ r101 I102 L103, CTi mr_X9_readPower [.ref a0, .int (x3 + (1 : Int32)), .long ((-1 : Int64) * (1 : Int64))] S I68 L69 r101 I102 L103 ∧ RET (some (.int r101)) (S, I102, L103)))) ∧ (¬ x6 ≤ 0 → ((¬ x4 = (1 : Int64) → ((¬ x6 = 0 → ∃ r111 I112 L113, CTi mr_X9_readPower [.ref a0, .int (x3 + (1 : Int32)), .long ((-1 : Int64) * x4)] S I68 L69 r111 I112 L113 ∧ RET (some (.int r111)) (S, I112, L113)) ∧ (x6 = 0 → ∃ r117 I118 L119, CTi mr_X9_readPower [.ref a0, .int (x3 + (1 : Int32)), .long ((-1 : Int64) * (1 : Int64))] S I68 L69 r117 I118 L119 ∧ RET (some (.int r117)) (S, I118, L119)))) ∧ (x4 = (1 : Int64) → ∃ r123 I124 L125, CTi mr_X9_broken [.ref a0, .int x3] S I68 L69 r123 I124 L125 ∧ RET (some (.int r123)) (S, I124, L125)))))))))))) ∧ (¬ (3 : Int32) ≤ x6 → ((¬ x6 = 0 → ∃ r131 I132 L133, CTi mr_X9_isFigure [.ref a0, .int x3, .int (0 : Int32), .int (9 : Int32)] S I L r131 I132 L133 ∧ ((r131 = 0 → ((x2 = 0 → ∃ r140 I141 L142, CTi mr_X9_at [.ref a0, .int x3] S I132 L133 r140 I141 L142 ∧ ((¬ r140 = (120 : Int32) → ((¬ x6 = 0 → RET (some (.int x3)) (S, mj_up I141 a0 13 (0 : Int32), mj_up L142 (a0 + 8) (0 : Int32).toNatClampNeg ((1 : Int64) * x4))) ∧ (x6 = 0 → ∃ r150 I151 L152, CTi mr_X9_broken [.ref a0, .int x3] S I141 L142 r150 I151 L152 ∧ RET (some (.int r150)) (S, I151, L152)))) ∧ (r140 = (120 : Int32) → (((I141 a0 13) < (2 : Int32) → ∃ r158 I159 L160, CTi mr_X9_broken [.ref a0, .int x3] S I141 L142 r158 I159 L160 ∧ RET (some (.int r158)) (S, I159, L160)) ∧ (¬ (I141 a0 13) < (2 : Int32) → ((x6 ≤ 0 → ((¬ x6 = 0 → ∃ r168 I169 L170, CTi mr_X9_readPower [.ref a0, .int (x3 + (1 : Int32)), .long ((1 : Int64) * x4)] S I141 L142 r168 I169 L170 ∧ RET (some (.int r168)) (S, I169, L170)) ∧ (x6 = 0 → ∃ r174 I175 L176, CTi mr_X9_readPower [.ref a0, .int (x3 + (1 : Int32)), .long ((1 : Int64) * (1 : Int64))] S I141 L142 r174 I175 L176 ∧ RET (some (.int r174)) (S, I175, L176)))) ∧ (¬ x6 ≤ 0 → ((¬ x4 = (1 : Int64) → ((¬ x6 = 0 → ∃ r184 I185 L186, CTi mr_X9_readPower [.ref a0, .int (x3 + (1 : Int32)), .long ((1 : Int64) * x4)] S I141 L142 r184 I185 L186 ∧ RET (some (.int r184)) (S, I185, L186)) ∧ (x6 = 0 → ∃ r190 I191 L192, CTi mr_X9_readPower [.ref a0, .int (x3 + (1 : Int32)), .long ((1 : Int64) * (1 : Int64))] S I141 L142 r190 I191 L192 ∧ RET (some (.int r190)) (S, I191, L192)))) ∧ (x4 = (1 : Int64) → ∃ r196 I197 L198, CTi mr_X9_broken [.ref a0, .int x3] S I141 L142 r196 I197 L198 ∧ RET (some (.int r196)) (S, I197, L198)))))))))) ∧ (¬ x2 = 0 → ∃ r202 I203 L204, CTi mr_X9_at [.ref a0, .int x3] S I132 L133 r202 I203 L204 ∧ ((¬ r202 = (120 : Int32) → ((¬ x6 = 0 → RET (some (.int x3)) (S, mj_up I203 a0 13 (0 : Int32), mj_up L204 (a0 + 8) (0 : Int32).toNatClampNeg ((-1 : Int64) * x4))) ∧ (x6 = 0 → ∃ r212 I213 L214, CTi mr_X9_broken [.ref a0, .int x3] S I203 L204 r212 I213 L214 ∧ RET (some (.int r212)) (S, I213, L214)))) ∧ (r202 = (120 : Int32) → (((I203 a0 13) < (2 : Int32) → ∃ r220 I221 L222, CTi mr_X9_broken [.ref a0, .int x3] S I203 L204 r220 I221 L222 ∧ RET (some (.int r220)) (S, I221, L222)) ∧ (¬ (I203 a0 13) < (2 : Int32) → ((x6 ≤ 0 → ((¬ x6 = 0 → ∃ r230 I231 L232, CTi mr_X9_readPower [.ref a0, .int (x3 + (1 : Int32)), .long ((-1 : Int64) * x4)] S I203 L204 r230 I231 L232 ∧ RET (some (.int r230)) (S, I231, L232)) ∧ (x6 = 0 → ∃ r236 I237 L238, CTi mr_X9_readPower [.ref a0, .int (x3 + (1 : Int32)), .long ((-1 : Int64) * (1 : Int64))] S I203 L204 r236 I237 L238 ∧ RET (some (.int r236)) (S, I237, L238)))) ∧ (¬ x6 ≤ 0 → ((¬ x4 = (1 : Int64) → ((¬ x6 = 0 → ∃ r246 I247 L248, CTi mr_X9_readPower [.ref a0, .int (x3 + (1 : Int32)), .long ((-1 : Int64) * x4)] S I203 L204 r246 I247 L248 ∧ RET (some (.int r246)) (S, I247, L248)) ∧ (x6 = 0 → ∃ r252 I253 L254, CTi mr_X9_readPower [.ref a0, .int (x3 + (1 : Int32)), .long ((-1 : Int64) * (1 : Int64))] S I203 L204 r252 I253 L254 ∧ RET (some (.int r252)) (S, I253, L254)))) ∧ (x4 = (1 : Int64) → ∃ r258 I259 L260, CTi mr_X9_broken [.ref a0, .int x3] S I203 L204 r258 I259 L260 ∧ RET (some (.int r258)) (S, I259, L260)))))))))))) ∧ (¬ r131 = 0 → ∃ r264 I265 L266, CTi mr_X9_at [.ref a0, .int x3] S I132 L133 r264 I265 L266 ∧ ∀ y269 : Int64, y269 = ((((10 : Int64) * x4) + r264.toInt64) - (48 : Int64)) → ∀ y272 : Int32, y272 = x6 + 1 → ∀ y275 : Int32, y275 = x3 + 1 → hd_X9_readTerm_8 S RET a0 x2 y275 y269 y272 I265 L266))) ∧ (x6 = 0 → ∃ r279 I280 L281, CTi mr_X9_isFigure [.ref a0, .int x3, .int (1 : Int32), .int (9 : Int32)] S I L r279 I280 L281 ∧ ((r279 = 0 → ((x2 = 0 → ∃ r288 I289 L290, CTi mr_X9_at [.ref a0, .int x3] S I280 L281 r288 I289 L290 ∧ ((¬ r288 = (120 : Int32) → ((¬ x6 = 0 → RET (some (.int x3)) (S, mj_up I289 a0 13 (0 : Int32), mj_up L290 (a0 + 8) (0 : Int32).toNatClampNeg ((1 : Int64) * x4))) ∧ (x6 = 0 → ∃ r298 I299 L300, CTi mr_X9_broken [.ref a0, .int x3] S I289 L290 r298 I299 L300 ∧ RET (some (.int r298)) (S, I299, L300)))) ∧ (r288 = (120 : Int32) → (((I289 a0 13) < (2 : Int32) → ∃ r306 I307 L308, CTi mr_X9_broken [.ref a0, .int x3] S I289 L290 r306 I307 L308 ∧ RET (some (.int r306)) (S, I307, L308)) ∧ (¬ (I289 a0 13) < (2 : Int32) → ((x6 ≤ 0 → ((¬ x6 = 0 → ∃ r316 I317 L318, CTi mr_X9_readPower [.ref a0, .int (x3 + (1 : Int32)), .long ((1 : Int64) * x4)] S I289 L290 r316 I317 L318 ∧ RET (some (.int r316)) (S, I317, L318)) ∧ (x6 = 0 → ∃ r322 I323 L324, CTi mr_X9_readPower [.ref a0, .int (x3 + (1 : Int32)), .long ((1 : Int64) * (1 : Int64))] S I289 L290 r322 I323 L324 ∧ RET (some (.int r322)) (S, I323, L324)))) ∧ (¬ x6 ≤ 0 → ((¬ x4 = (1 : Int64) → ((¬ x6 = 0 → ∃ r332 I333 L334, CTi mr_X9_readPower [.ref a0, .int (x3 + (1 : Int32)), .long ((1 : Int64) * x4)] S I289 L290 r332 I333 L334 ∧ RET (some (.int r332)) (S, I333, L334)) ∧ (x6 = 0 → ∃ r338 I339 L340, CTi mr_X9_readPower [.ref a0, .int (x3 + (1 : Int32)), .long ((1 : Int64) * (1 : Int64))] S I289 L290 r338 I339 L340 ∧ RET (some (.int r338)) (S, I339, L340)))) ∧ (x4 = (1 : Int64) → ∃ r344 I345 L346, CTi mr_X9_broken [.ref a0, .int x3] S I289 L290 r344 I345 L346 ∧ RET (some (.int r344)) (S, I345, L346)))))))))) ∧ (¬ x2 = 0 → ∃ r350 I351 L352, CTi mr_X9_at [.ref a0, .int x3] S I280 L281 r350 I351 L352 ∧ ((¬ r350 = (120 : Int32) → ((¬ x6 = 0 → RET (some (.int x3)) (S, mj_up I351 a0 13 (0 : Int32), mj_up L352 (a0 + 8) (0 : Int32).toNatClampNeg ((-1 : Int64) * x4))) ∧ (x6 = 0 → ∃ r360 I361 L362, CTi mr_X9_broken [.ref a0, .int x3] S I351 L352 r360 I361 L362 ∧ RET (some (.int r360)) (S, I361, L362)))) ∧ (r350 = (120 : Int32) → (((I351 a0 13) < (2 : Int32) → ∃ r368 I369 L370, CTi mr_X9_broken [.ref a0, .int x3] S I351 L352 r368 I369 L370 ∧ RET (some (.int r368)) (S, I369, L370)) ∧ (¬ (I351 a0 13) < (2 : Int32) → ((x6 ≤ 0 → ((¬ x6 = 0 → ∃ r378 I379 L380, CTi mr_X9_readPower [.ref a0, .int (x3 + (1 : Int32)), .long ((-1 : Int64) * x4)] S I351 L352 r378 I379 L380 ∧ RET (some (.int r378)) (S, I379, L380)) ∧ (x6 = 0 → ∃ r384 I385 L386, CTi mr_X9_readPower [.ref a0, .int (x3 + (1 : Int32)), .long ((-1 : Int64) * (1 : Int64))] S I351 L352 r384 I385 L386 ∧ RET (some (.int r384)) (S, I385, L386)))) ∧ (¬ x6 ≤ 0 → ((¬ x4 = (1 : Int64) → ((¬ x6 = 0 → ∃ r394 I395 L396, CTi mr_X9_readPower [.ref a0, .int (x3 + (1 : Int32)), .long ((-1 : Int64) * x4)] S I351 L352 r394 I395 L396 ∧ RET (some (.int r394)) (S, I395, L396)) ∧ (x6 = 0 → ∃ r400 I401 L402, CTi mr_X9_readPower [.ref a0, .int (x3 + (1 : Int32)), .long ((-1 : Int64) * (1 : Int64))] S I351 L352 r400 I401 L402 ∧ RET (some (.int r400)) (S, I401, L402)))) ∧ (x4 = (1 : Int64) → ∃ r406 I407 L408, CTi mr_X9_broken [.ref a0, .int x3] S I351 L352 r406 I407 L408 ∧ RET (some (.int r406)) (S, I407, L408)))))))))))) ∧ (¬ r279 = 0 → ∃ r412 I413 L414, CTi mr_X9_at [.ref a0, .int x3] S I280 L281 r412 I413 L414 ∧ ∀ y417 : Int64, y417 = ((((10 : Int64) * x4) + r412.toInt64) - (48 : Int64)) → ∀ y420 : Int32, y420 = x6 + 1 → ∀ y423 : Int32, y423 = x3 + 1 → hd_X9_readTerm_8 S RET a0 x2 y423 y417 y420 I413 L414))))))) : hd_X9_readTerm_8 S RET a0 x2 x3 x4 x6 I L := by
  unfold hd_X9_readTerm_8
  refine V.iload dX9_readTerm_8 rfl ?_
  refine V.iconst (v := (3)) dX9_readTerm_10 (by decide) ?_
  refine V.icmp_ge (tgt := 62) dX9_readTerm_11 (by decide) (fun c1 => ?_) (fun c1 => ?_)
  · have H2 := H0.1 c1
    refine V.iload_n dX9_readTerm_62 rfl rfl ?_
    refine V.if_eq (tgt := 72) dX9_readTerm_63 (by decide) (fun c3 => ?_) (fun c3 => ?_)
    · have H4 := H2.1 c3
      refine V.lconst (v := 1) dX9_readTerm_72 (by decide) ?_
      refine V.lstore (lo' := [(7, .long (1 : Int64)), (0, .ref a0), (2, .int x2), (3, .int x3), (4, .long x4), (6, .int x6)]) dX9_readTerm_73 (by decide) rfl ?_
      refine V.aload_n dX9_readTerm_75 rfl rfl ?_
      refine V.iload_n dX9_readTerm_76 rfl rfl ?_
      obtain ⟨r5, I6, L7, t8, H9⟩ := H4
      refine V.cVi (N := mr_X9_at) (as := [.int x3]) dX9_readTerm_77 ml_X9_124 ok_X9_at okV_X9_at ⟨Nat.le_of_ble_eq_true rfl, Nat.le_of_ble_eq_true rfl⟩ h0.1 rfl rfl rfl (Nat.le_of_ble_eq_true rfl) t8 ?_
      refine V.bipush (v := (120)) dX9_readTerm_80 (by decide) ?_
      refine V.icmp_ne (tgt := 133) dX9_readTerm_82 (by decide) (fun c10 => ?_) (fun c10 => ?_)
      · have H11 := H9.1 c10
        refine V.iload dX9_readTerm_133 rfl ?_
        refine V.if_ne (tgt := 144) dX9_readTerm_135 (by decide) (fun c12 => ?_) (fun c12 => ?_)
        · have H13 := H11.1 c12
          refine V.aload_n dX9_readTerm_144 rfl rfl ?_
          refine V.getf (v := .ref (a0 + 8)) dX9_readTerm_145 fl_X9_33 h0.1 (by decide) rfl ?_
          refine V.iconst (v := (0)) dX9_readTerm_148 (by decide) ?_
          refine V.lload dX9_readTerm_149 rfl ?_
          refine V.lload dX9_readTerm_151 rfl ?_
          refine V.lmul dX9_readTerm_153 ?_
          refine V.last dX9_readTerm_154 h0.2.2.2.2.2.2.2.2.1 (mj_lit (by decide)) ?_
          refine V.aload_n dX9_readTerm_155 rfl rfl ?_
          refine V.iconst (v := (0)) dX9_readTerm_156 (by decide) ?_
          refine V.puti dX9_readTerm_157 fl_X9_132 fp_X9_132 (Or.inl rfl) h0.1 (by decide) rfl rfl ?_
          refine V.iload_n dX9_readTerm_160 rfl rfl ?_
          exact V.ret (v := some (.int x3)) rfl (Or.inl ⟨_, rfl, dX9_readTerm_161, _, rfl, rfl⟩) ⟨Nat.le_refl _, Nat.le_refl _⟩ H13
        · have H14 := H11.2 c12
          refine V.aload_n dX9_readTerm_138 rfl rfl ?_
          refine V.iload_n dX9_readTerm_139 rfl rfl ?_
          obtain ⟨r15, I16, L17, t18, H19⟩ := H14
          refine V.cVi (N := mr_X9_broken) (as := [.int x3]) dX9_readTerm_140 ml_X9_135 ok_X9_broken okV_X9_broken ⟨Nat.le_of_ble_eq_true rfl, Nat.le_of_ble_eq_true rfl⟩ h0.1 rfl rfl rfl (Nat.le_of_ble_eq_true rfl) t18 ?_
          exact V.ret (v := some (.int r15)) rfl (Or.inl ⟨_, rfl, dX9_readTerm_143, _, rfl, rfl⟩) ⟨Nat.le_refl _, Nat.le_refl _⟩ H19
      · have H20 := H9.2 c10
        refine V.aload_n dX9_readTerm_85 rfl rfl ?_
        refine V.getf (v := .int (I6 a0 13)) dX9_readTerm_86 fl_X9_132 h0.1 (by decide) rfl ?_
        refine V.iconst (v := (2)) dX9_readTerm_89 (by decide) ?_
        refine V.icmp_lt (tgt := 105) dX9_readTerm_90 (by decide) (fun c21 => ?_) (fun c21 => ?_)
        · have H22 := H20.1 c21
          refine V.aload_n dX9_readTerm_105 rfl rfl ?_
          refine V.iload_n dX9_readTerm_106 rfl rfl ?_
          obtain ⟨r23, I24, L25, t26, H27⟩ := H22
          refine V.cVi (N := mr_X9_broken) (as := [.int x3]) dX9_readTerm_107 ml_X9_135 ok_X9_broken okV_X9_broken ⟨Nat.le_of_ble_eq_true rfl, Nat.le_of_ble_eq_true rfl⟩ h0.1 rfl rfl rfl (Nat.le_of_ble_eq_true rfl) t26 ?_
          exact V.ret (v := some (.int r23)) rfl (Or.inl ⟨_, rfl, dX9_readTerm_110, _, rfl, rfl⟩) ⟨Nat.le_refl _, Nat.le_refl _⟩ H27
        · have H28 := H20.2 c21
          refine V.iload dX9_readTerm_93 rfl ?_
          refine V.if_le (tgt := 111) dX9_readTerm_95 (by decide) (fun c29 => ?_) (fun c29 => ?_)
          · have H30 := H28.1 c29
            refine V.aload_n dX9_readTerm_111 rfl rfl ?_
            refine V.iload_n dX9_readTerm_112 rfl rfl ?_
            refine V.iconst (v := (1)) dX9_readTerm_113 (by decide) ?_
            refine V.iadd dX9_readTerm_114 ?_
            refine V.lload dX9_readTerm_115 rfl ?_
            refine V.iload dX9_readTerm_117 rfl ?_
            refine V.if_ne (tgt := 126) dX9_readTerm_119 (by decide) (fun c31 => ?_) (fun c31 => ?_)
            · have H32 := H30.1 c31
              refine V.lload dX9_readTerm_126 rfl ?_
              refine V.lmul dX9_readTerm_128 ?_
              obtain ⟨r33, I34, L35, t36, H37⟩ := H32
              refine V.cVi (N := mr_X9_readPower) (as := [.int (x3 + (1 : Int32)), .long ((1 : Int64) * x4)]) dX9_readTerm_129 ml_X9_148 ok_X9_readPower okV_X9_readPower ⟨Nat.le_of_ble_eq_true rfl, Nat.le_of_ble_eq_true rfl⟩ h0.1 rfl rfl rfl (Nat.le_of_ble_eq_true rfl) t36 ?_
              exact V.ret (v := some (.int r33)) rfl (Or.inl ⟨_, rfl, dX9_readTerm_132, _, rfl, rfl⟩) ⟨Nat.le_refl _, Nat.le_refl _⟩ H37
            · have H38 := H30.2 c31
              refine V.lconst (v := 1) dX9_readTerm_122 (by decide) ?_
              refine V.goto (tgt := 128) dX9_readTerm_123 (by decide) ?_
              refine V.lmul dX9_readTerm_128 ?_
              obtain ⟨r39, I40, L41, t42, H43⟩ := H38
              refine V.cVi (N := mr_X9_readPower) (as := [.int (x3 + (1 : Int32)), .long ((1 : Int64) * (1 : Int64))]) dX9_readTerm_129 ml_X9_148 ok_X9_readPower okV_X9_readPower ⟨Nat.le_of_ble_eq_true rfl, Nat.le_of_ble_eq_true rfl⟩ h0.1 rfl rfl rfl (Nat.le_of_ble_eq_true rfl) t42 ?_
              exact V.ret (v := some (.int r39)) rfl (Or.inl ⟨_, rfl, dX9_readTerm_132, _, rfl, rfl⟩) ⟨Nat.le_refl _, Nat.le_refl _⟩ H43
          · have H44 := H28.2 c29
            refine V.lload dX9_readTerm_98 rfl ?_
            refine V.lconst (v := 1) dX9_readTerm_100 (by decide) ?_
            refine V.lc_ne (tgt := 111) dX9_readTerm_101 dX9_readTerm_102 (by decide) (fun c45 => ?_) (fun c45 => ?_)
            · have H46 := H44.1 c45
              refine V.aload_n dX9_readTerm_111 rfl rfl ?_
              refine V.iload_n dX9_readTerm_112 rfl rfl ?_
              refine V.iconst (v := (1)) dX9_readTerm_113 (by decide) ?_
              refine V.iadd dX9_readTerm_114 ?_
              refine V.lload dX9_readTerm_115 rfl ?_
              refine V.iload dX9_readTerm_117 rfl ?_
              refine V.if_ne (tgt := 126) dX9_readTerm_119 (by decide) (fun c47 => ?_) (fun c47 => ?_)
              · have H48 := H46.1 c47
                refine V.lload dX9_readTerm_126 rfl ?_
                refine V.lmul dX9_readTerm_128 ?_
                obtain ⟨r49, I50, L51, t52, H53⟩ := H48
                refine V.cVi (N := mr_X9_readPower) (as := [.int (x3 + (1 : Int32)), .long ((1 : Int64) * x4)]) dX9_readTerm_129 ml_X9_148 ok_X9_readPower okV_X9_readPower ⟨Nat.le_of_ble_eq_true rfl, Nat.le_of_ble_eq_true rfl⟩ h0.1 rfl rfl rfl (Nat.le_of_ble_eq_true rfl) t52 ?_
                exact V.ret (v := some (.int r49)) rfl (Or.inl ⟨_, rfl, dX9_readTerm_132, _, rfl, rfl⟩) ⟨Nat.le_refl _, Nat.le_refl _⟩ H53
              · have H54 := H46.2 c47
                refine V.lconst (v := 1) dX9_readTerm_122 (by decide) ?_
                refine V.goto (tgt := 128) dX9_readTerm_123 (by decide) ?_
                refine V.lmul dX9_readTerm_128 ?_
                obtain ⟨r55, I56, L57, t58, H59⟩ := H54
                refine V.cVi (N := mr_X9_readPower) (as := [.int (x3 + (1 : Int32)), .long ((1 : Int64) * (1 : Int64))]) dX9_readTerm_129 ml_X9_148 ok_X9_readPower okV_X9_readPower ⟨Nat.le_of_ble_eq_true rfl, Nat.le_of_ble_eq_true rfl⟩ h0.1 rfl rfl rfl (Nat.le_of_ble_eq_true rfl) t58 ?_
                exact V.ret (v := some (.int r55)) rfl (Or.inl ⟨_, rfl, dX9_readTerm_132, _, rfl, rfl⟩) ⟨Nat.le_refl _, Nat.le_refl _⟩ H59
            · have H60 := H44.2 c45
              refine V.aload_n dX9_readTerm_105 rfl rfl ?_
              refine V.iload_n dX9_readTerm_106 rfl rfl ?_
              obtain ⟨r61, I62, L63, t64, H65⟩ := H60
              refine V.cVi (N := mr_X9_broken) (as := [.int x3]) dX9_readTerm_107 ml_X9_135 ok_X9_broken okV_X9_broken ⟨Nat.le_of_ble_eq_true rfl, Nat.le_of_ble_eq_true rfl⟩ h0.1 rfl rfl rfl (Nat.le_of_ble_eq_true rfl) t64 ?_
              exact V.ret (v := some (.int r61)) rfl (Or.inl ⟨_, rfl, dX9_readTerm_110, _, rfl, rfl⟩) ⟨Nat.le_refl _, Nat.le_refl _⟩ H65
    · have H66 := H2.2 c3
      refine V.ldc2 kc_X9_146 dX9_readTerm_66 ?_
      refine V.goto (tgt := 73) dX9_readTerm_69 (by decide) ?_
      refine V.lstore (lo' := [(7, .long (-1 : Int64)), (0, .ref a0), (2, .int x2), (3, .int x3), (4, .long x4), (6, .int x6)]) dX9_readTerm_73 (by decide) rfl ?_
      refine V.aload_n dX9_readTerm_75 rfl rfl ?_
      refine V.iload_n dX9_readTerm_76 rfl rfl ?_
      obtain ⟨r67, I68, L69, t70, H71⟩ := H66
      refine V.cVi (N := mr_X9_at) (as := [.int x3]) dX9_readTerm_77 ml_X9_124 ok_X9_at okV_X9_at ⟨Nat.le_of_ble_eq_true rfl, Nat.le_of_ble_eq_true rfl⟩ h0.1 rfl rfl rfl (Nat.le_of_ble_eq_true rfl) t70 ?_
      refine V.bipush (v := (120)) dX9_readTerm_80 (by decide) ?_
      refine V.icmp_ne (tgt := 133) dX9_readTerm_82 (by decide) (fun c72 => ?_) (fun c72 => ?_)
      · have H73 := H71.1 c72
        refine V.iload dX9_readTerm_133 rfl ?_
        refine V.if_ne (tgt := 144) dX9_readTerm_135 (by decide) (fun c74 => ?_) (fun c74 => ?_)
        · have H75 := H73.1 c74
          refine V.aload_n dX9_readTerm_144 rfl rfl ?_
          refine V.getf (v := .ref (a0 + 8)) dX9_readTerm_145 fl_X9_33 h0.1 (by decide) rfl ?_
          refine V.iconst (v := (0)) dX9_readTerm_148 (by decide) ?_
          refine V.lload dX9_readTerm_149 rfl ?_
          refine V.lload dX9_readTerm_151 rfl ?_
          refine V.lmul dX9_readTerm_153 ?_
          refine V.last dX9_readTerm_154 h0.2.2.2.2.2.2.2.2.1 (mj_lit (by decide)) ?_
          refine V.aload_n dX9_readTerm_155 rfl rfl ?_
          refine V.iconst (v := (0)) dX9_readTerm_156 (by decide) ?_
          refine V.puti dX9_readTerm_157 fl_X9_132 fp_X9_132 (Or.inl rfl) h0.1 (by decide) rfl rfl ?_
          refine V.iload_n dX9_readTerm_160 rfl rfl ?_
          exact V.ret (v := some (.int x3)) rfl (Or.inl ⟨_, rfl, dX9_readTerm_161, _, rfl, rfl⟩) ⟨Nat.le_refl _, Nat.le_refl _⟩ H75
        · have H76 := H73.2 c74
          refine V.aload_n dX9_readTerm_138 rfl rfl ?_
          refine V.iload_n dX9_readTerm_139 rfl rfl ?_
          obtain ⟨r77, I78, L79, t80, H81⟩ := H76
          refine V.cVi (N := mr_X9_broken) (as := [.int x3]) dX9_readTerm_140 ml_X9_135 ok_X9_broken okV_X9_broken ⟨Nat.le_of_ble_eq_true rfl, Nat.le_of_ble_eq_true rfl⟩ h0.1 rfl rfl rfl (Nat.le_of_ble_eq_true rfl) t80 ?_
          exact V.ret (v := some (.int r77)) rfl (Or.inl ⟨_, rfl, dX9_readTerm_143, _, rfl, rfl⟩) ⟨Nat.le_refl _, Nat.le_refl _⟩ H81
      · have H82 := H71.2 c72
        refine V.aload_n dX9_readTerm_85 rfl rfl ?_
        refine V.getf (v := .int (I68 a0 13)) dX9_readTerm_86 fl_X9_132 h0.1 (by decide) rfl ?_
        refine V.iconst (v := (2)) dX9_readTerm_89 (by decide) ?_
        refine V.icmp_lt (tgt := 105) dX9_readTerm_90 (by decide) (fun c83 => ?_) (fun c83 => ?_)
        · have H84 := H82.1 c83
          refine V.aload_n dX9_readTerm_105 rfl rfl ?_
          refine V.iload_n dX9_readTerm_106 rfl rfl ?_
          obtain ⟨r85, I86, L87, t88, H89⟩ := H84
          refine V.cVi (N := mr_X9_broken) (as := [.int x3]) dX9_readTerm_107 ml_X9_135 ok_X9_broken okV_X9_broken ⟨Nat.le_of_ble_eq_true rfl, Nat.le_of_ble_eq_true rfl⟩ h0.1 rfl rfl rfl (Nat.le_of_ble_eq_true rfl) t88 ?_
          exact V.ret (v := some (.int r85)) rfl (Or.inl ⟨_, rfl, dX9_readTerm_110, _, rfl, rfl⟩) ⟨Nat.le_refl _, Nat.le_refl _⟩ H89
        · have H90 := H82.2 c83
          refine V.iload dX9_readTerm_93 rfl ?_
          refine V.if_le (tgt := 111) dX9_readTerm_95 (by decide) (fun c91 => ?_) (fun c91 => ?_)
          · have H92 := H90.1 c91
            refine V.aload_n dX9_readTerm_111 rfl rfl ?_
            refine V.iload_n dX9_readTerm_112 rfl rfl ?_
            refine V.iconst (v := (1)) dX9_readTerm_113 (by decide) ?_
            refine V.iadd dX9_readTerm_114 ?_
            refine V.lload dX9_readTerm_115 rfl ?_
            refine V.iload dX9_readTerm_117 rfl ?_
            refine V.if_ne (tgt := 126) dX9_readTerm_119 (by decide) (fun c93 => ?_) (fun c93 => ?_)
            · have H94 := H92.1 c93
              refine V.lload dX9_readTerm_126 rfl ?_
              refine V.lmul dX9_readTerm_128 ?_
              obtain ⟨r95, I96, L97, t98, H99⟩ := H94
              refine V.cVi (N := mr_X9_readPower) (as := [.int (x3 + (1 : Int32)), .long ((-1 : Int64) * x4)]) dX9_readTerm_129 ml_X9_148 ok_X9_readPower okV_X9_readPower ⟨Nat.le_of_ble_eq_true rfl, Nat.le_of_ble_eq_true rfl⟩ h0.1 rfl rfl rfl (Nat.le_of_ble_eq_true rfl) t98 ?_
              exact V.ret (v := some (.int r95)) rfl (Or.inl ⟨_, rfl, dX9_readTerm_132, _, rfl, rfl⟩) ⟨Nat.le_refl _, Nat.le_refl _⟩ H99
            · have H100 := H92.2 c93
              refine V.lconst (v := 1) dX9_readTerm_122 (by decide) ?_
              refine V.goto (tgt := 128) dX9_readTerm_123 (by decide) ?_
              refine V.lmul dX9_readTerm_128 ?_
              obtain ⟨r101, I102, L103, t104, H105⟩ := H100
              refine V.cVi (N := mr_X9_readPower) (as := [.int (x3 + (1 : Int32)), .long ((-1 : Int64) * (1 : Int64))]) dX9_readTerm_129 ml_X9_148 ok_X9_readPower okV_X9_readPower ⟨Nat.le_of_ble_eq_true rfl, Nat.le_of_ble_eq_true rfl⟩ h0.1 rfl rfl rfl (Nat.le_of_ble_eq_true rfl) t104 ?_
              exact V.ret (v := some (.int r101)) rfl (Or.inl ⟨_, rfl, dX9_readTerm_132, _, rfl, rfl⟩) ⟨Nat.le_refl _, Nat.le_refl _⟩ H105
          · have H106 := H90.2 c91
            refine V.lload dX9_readTerm_98 rfl ?_
            refine V.lconst (v := 1) dX9_readTerm_100 (by decide) ?_
            refine V.lc_ne (tgt := 111) dX9_readTerm_101 dX9_readTerm_102 (by decide) (fun c107 => ?_) (fun c107 => ?_)
            · have H108 := H106.1 c107
              refine V.aload_n dX9_readTerm_111 rfl rfl ?_
              refine V.iload_n dX9_readTerm_112 rfl rfl ?_
              refine V.iconst (v := (1)) dX9_readTerm_113 (by decide) ?_
              refine V.iadd dX9_readTerm_114 ?_
              refine V.lload dX9_readTerm_115 rfl ?_
              refine V.iload dX9_readTerm_117 rfl ?_
              refine V.if_ne (tgt := 126) dX9_readTerm_119 (by decide) (fun c109 => ?_) (fun c109 => ?_)
              · have H110 := H108.1 c109
                refine V.lload dX9_readTerm_126 rfl ?_
                refine V.lmul dX9_readTerm_128 ?_
                obtain ⟨r111, I112, L113, t114, H115⟩ := H110
                refine V.cVi (N := mr_X9_readPower) (as := [.int (x3 + (1 : Int32)), .long ((-1 : Int64) * x4)]) dX9_readTerm_129 ml_X9_148 ok_X9_readPower okV_X9_readPower ⟨Nat.le_of_ble_eq_true rfl, Nat.le_of_ble_eq_true rfl⟩ h0.1 rfl rfl rfl (Nat.le_of_ble_eq_true rfl) t114 ?_
                exact V.ret (v := some (.int r111)) rfl (Or.inl ⟨_, rfl, dX9_readTerm_132, _, rfl, rfl⟩) ⟨Nat.le_refl _, Nat.le_refl _⟩ H115
              · have H116 := H108.2 c109
                refine V.lconst (v := 1) dX9_readTerm_122 (by decide) ?_
                refine V.goto (tgt := 128) dX9_readTerm_123 (by decide) ?_
                refine V.lmul dX9_readTerm_128 ?_
                obtain ⟨r117, I118, L119, t120, H121⟩ := H116
                refine V.cVi (N := mr_X9_readPower) (as := [.int (x3 + (1 : Int32)), .long ((-1 : Int64) * (1 : Int64))]) dX9_readTerm_129 ml_X9_148 ok_X9_readPower okV_X9_readPower ⟨Nat.le_of_ble_eq_true rfl, Nat.le_of_ble_eq_true rfl⟩ h0.1 rfl rfl rfl (Nat.le_of_ble_eq_true rfl) t120 ?_
                exact V.ret (v := some (.int r117)) rfl (Or.inl ⟨_, rfl, dX9_readTerm_132, _, rfl, rfl⟩) ⟨Nat.le_refl _, Nat.le_refl _⟩ H121
            · have H122 := H106.2 c107
              refine V.aload_n dX9_readTerm_105 rfl rfl ?_
              refine V.iload_n dX9_readTerm_106 rfl rfl ?_
              obtain ⟨r123, I124, L125, t126, H127⟩ := H122
              refine V.cVi (N := mr_X9_broken) (as := [.int x3]) dX9_readTerm_107 ml_X9_135 ok_X9_broken okV_X9_broken ⟨Nat.le_of_ble_eq_true rfl, Nat.le_of_ble_eq_true rfl⟩ h0.1 rfl rfl rfl (Nat.le_of_ble_eq_true rfl) t126 ?_
              exact V.ret (v := some (.int r123)) rfl (Or.inl ⟨_, rfl, dX9_readTerm_110, _, rfl, rfl⟩) ⟨Nat.le_refl _, Nat.le_refl _⟩ H127
  · have H128 := H0.2 c1
    refine V.aload_n dX9_readTerm_14 rfl rfl ?_
    refine V.iload_n dX9_readTerm_15 rfl rfl ?_
    refine V.iload dX9_readTerm_16 rfl ?_
    refine V.if_ne (tgt := 25) dX9_readTerm_18 (by decide) (fun c129 => ?_) (fun c129 => ?_)
    · have H130 := H128.1 c129
      refine V.iconst (v := (0)) dX9_readTerm_25 (by decide) ?_
      refine V.bipush (v := (9)) dX9_readTerm_26 (by decide) ?_
      obtain ⟨r131, I132, L133, t134, H135⟩ := H130
      refine V.cVi (N := mr_X9_isFigure) (as := [.int x3, .int (0 : Int32), .int (9 : Int32)]) dX9_readTerm_28 ml_X9_138 ok_X9_isFigure okV_X9_isFigure ⟨Nat.le_of_ble_eq_true rfl, Nat.le_of_ble_eq_true rfl⟩ h0.1 rfl rfl rfl (Nat.le_of_ble_eq_true rfl) t134 ?_
      refine V.if_eq (tgt := 62) dX9_readTerm_31 (by decide) (fun c136 => ?_) (fun c136 => ?_)
      · have H137 := H135.1 c136
        refine V.iload_n dX9_readTerm_62 rfl rfl ?_
        refine V.if_eq (tgt := 72) dX9_readTerm_63 (by decide) (fun c138 => ?_) (fun c138 => ?_)
        · have H139 := H137.1 c138
          refine V.lconst (v := 1) dX9_readTerm_72 (by decide) ?_
          refine V.lstore (lo' := [(7, .long (1 : Int64)), (0, .ref a0), (2, .int x2), (3, .int x3), (4, .long x4), (6, .int x6)]) dX9_readTerm_73 (by decide) rfl ?_
          refine V.aload_n dX9_readTerm_75 rfl rfl ?_
          refine V.iload_n dX9_readTerm_76 rfl rfl ?_
          obtain ⟨r140, I141, L142, t143, H144⟩ := H139
          refine V.cVi (N := mr_X9_at) (as := [.int x3]) dX9_readTerm_77 ml_X9_124 ok_X9_at okV_X9_at ⟨Nat.le_of_ble_eq_true rfl, Nat.le_of_ble_eq_true rfl⟩ h0.1 rfl rfl rfl (Nat.le_of_ble_eq_true rfl) t143 ?_
          refine V.bipush (v := (120)) dX9_readTerm_80 (by decide) ?_
          refine V.icmp_ne (tgt := 133) dX9_readTerm_82 (by decide) (fun c145 => ?_) (fun c145 => ?_)
          · have H146 := H144.1 c145
            refine V.iload dX9_readTerm_133 rfl ?_
            refine V.if_ne (tgt := 144) dX9_readTerm_135 (by decide) (fun c147 => ?_) (fun c147 => ?_)
            · have H148 := H146.1 c147
              refine V.aload_n dX9_readTerm_144 rfl rfl ?_
              refine V.getf (v := .ref (a0 + 8)) dX9_readTerm_145 fl_X9_33 h0.1 (by decide) rfl ?_
              refine V.iconst (v := (0)) dX9_readTerm_148 (by decide) ?_
              refine V.lload dX9_readTerm_149 rfl ?_
              refine V.lload dX9_readTerm_151 rfl ?_
              refine V.lmul dX9_readTerm_153 ?_
              refine V.last dX9_readTerm_154 h0.2.2.2.2.2.2.2.2.1 (mj_lit (by decide)) ?_
              refine V.aload_n dX9_readTerm_155 rfl rfl ?_
              refine V.iconst (v := (0)) dX9_readTerm_156 (by decide) ?_
              refine V.puti dX9_readTerm_157 fl_X9_132 fp_X9_132 (Or.inl rfl) h0.1 (by decide) rfl rfl ?_
              refine V.iload_n dX9_readTerm_160 rfl rfl ?_
              exact V.ret (v := some (.int x3)) rfl (Or.inl ⟨_, rfl, dX9_readTerm_161, _, rfl, rfl⟩) ⟨Nat.le_refl _, Nat.le_refl _⟩ H148
            · have H149 := H146.2 c147
              refine V.aload_n dX9_readTerm_138 rfl rfl ?_
              refine V.iload_n dX9_readTerm_139 rfl rfl ?_
              obtain ⟨r150, I151, L152, t153, H154⟩ := H149
              refine V.cVi (N := mr_X9_broken) (as := [.int x3]) dX9_readTerm_140 ml_X9_135 ok_X9_broken okV_X9_broken ⟨Nat.le_of_ble_eq_true rfl, Nat.le_of_ble_eq_true rfl⟩ h0.1 rfl rfl rfl (Nat.le_of_ble_eq_true rfl) t153 ?_
              exact V.ret (v := some (.int r150)) rfl (Or.inl ⟨_, rfl, dX9_readTerm_143, _, rfl, rfl⟩) ⟨Nat.le_refl _, Nat.le_refl _⟩ H154
          · have H155 := H144.2 c145
            refine V.aload_n dX9_readTerm_85 rfl rfl ?_
            refine V.getf (v := .int (I141 a0 13)) dX9_readTerm_86 fl_X9_132 h0.1 (by decide) rfl ?_
            refine V.iconst (v := (2)) dX9_readTerm_89 (by decide) ?_
            refine V.icmp_lt (tgt := 105) dX9_readTerm_90 (by decide) (fun c156 => ?_) (fun c156 => ?_)
            · have H157 := H155.1 c156
              refine V.aload_n dX9_readTerm_105 rfl rfl ?_
              refine V.iload_n dX9_readTerm_106 rfl rfl ?_
              obtain ⟨r158, I159, L160, t161, H162⟩ := H157
              refine V.cVi (N := mr_X9_broken) (as := [.int x3]) dX9_readTerm_107 ml_X9_135 ok_X9_broken okV_X9_broken ⟨Nat.le_of_ble_eq_true rfl, Nat.le_of_ble_eq_true rfl⟩ h0.1 rfl rfl rfl (Nat.le_of_ble_eq_true rfl) t161 ?_
              exact V.ret (v := some (.int r158)) rfl (Or.inl ⟨_, rfl, dX9_readTerm_110, _, rfl, rfl⟩) ⟨Nat.le_refl _, Nat.le_refl _⟩ H162
            · have H163 := H155.2 c156
              refine V.iload dX9_readTerm_93 rfl ?_
              refine V.if_le (tgt := 111) dX9_readTerm_95 (by decide) (fun c164 => ?_) (fun c164 => ?_)
              · have H165 := H163.1 c164
                refine V.aload_n dX9_readTerm_111 rfl rfl ?_
                refine V.iload_n dX9_readTerm_112 rfl rfl ?_
                refine V.iconst (v := (1)) dX9_readTerm_113 (by decide) ?_
                refine V.iadd dX9_readTerm_114 ?_
                refine V.lload dX9_readTerm_115 rfl ?_
                refine V.iload dX9_readTerm_117 rfl ?_
                refine V.if_ne (tgt := 126) dX9_readTerm_119 (by decide) (fun c166 => ?_) (fun c166 => ?_)
                · have H167 := H165.1 c166
                  refine V.lload dX9_readTerm_126 rfl ?_
                  refine V.lmul dX9_readTerm_128 ?_
                  obtain ⟨r168, I169, L170, t171, H172⟩ := H167
                  refine V.cVi (N := mr_X9_readPower) (as := [.int (x3 + (1 : Int32)), .long ((1 : Int64) * x4)]) dX9_readTerm_129 ml_X9_148 ok_X9_readPower okV_X9_readPower ⟨Nat.le_of_ble_eq_true rfl, Nat.le_of_ble_eq_true rfl⟩ h0.1 rfl rfl rfl (Nat.le_of_ble_eq_true rfl) t171 ?_
                  exact V.ret (v := some (.int r168)) rfl (Or.inl ⟨_, rfl, dX9_readTerm_132, _, rfl, rfl⟩) ⟨Nat.le_refl _, Nat.le_refl _⟩ H172
                · have H173 := H165.2 c166
                  refine V.lconst (v := 1) dX9_readTerm_122 (by decide) ?_
                  refine V.goto (tgt := 128) dX9_readTerm_123 (by decide) ?_
                  refine V.lmul dX9_readTerm_128 ?_
                  obtain ⟨r174, I175, L176, t177, H178⟩ := H173
                  refine V.cVi (N := mr_X9_readPower) (as := [.int (x3 + (1 : Int32)), .long ((1 : Int64) * (1 : Int64))]) dX9_readTerm_129 ml_X9_148 ok_X9_readPower okV_X9_readPower ⟨Nat.le_of_ble_eq_true rfl, Nat.le_of_ble_eq_true rfl⟩ h0.1 rfl rfl rfl (Nat.le_of_ble_eq_true rfl) t177 ?_
                  exact V.ret (v := some (.int r174)) rfl (Or.inl ⟨_, rfl, dX9_readTerm_132, _, rfl, rfl⟩) ⟨Nat.le_refl _, Nat.le_refl _⟩ H178
              · have H179 := H163.2 c164
                refine V.lload dX9_readTerm_98 rfl ?_
                refine V.lconst (v := 1) dX9_readTerm_100 (by decide) ?_
                refine V.lc_ne (tgt := 111) dX9_readTerm_101 dX9_readTerm_102 (by decide) (fun c180 => ?_) (fun c180 => ?_)
                · have H181 := H179.1 c180
                  refine V.aload_n dX9_readTerm_111 rfl rfl ?_
                  refine V.iload_n dX9_readTerm_112 rfl rfl ?_
                  refine V.iconst (v := (1)) dX9_readTerm_113 (by decide) ?_
                  refine V.iadd dX9_readTerm_114 ?_
                  refine V.lload dX9_readTerm_115 rfl ?_
                  refine V.iload dX9_readTerm_117 rfl ?_
                  refine V.if_ne (tgt := 126) dX9_readTerm_119 (by decide) (fun c182 => ?_) (fun c182 => ?_)
                  · have H183 := H181.1 c182
                    refine V.lload dX9_readTerm_126 rfl ?_
                    refine V.lmul dX9_readTerm_128 ?_
                    obtain ⟨r184, I185, L186, t187, H188⟩ := H183
                    refine V.cVi (N := mr_X9_readPower) (as := [.int (x3 + (1 : Int32)), .long ((1 : Int64) * x4)]) dX9_readTerm_129 ml_X9_148 ok_X9_readPower okV_X9_readPower ⟨Nat.le_of_ble_eq_true rfl, Nat.le_of_ble_eq_true rfl⟩ h0.1 rfl rfl rfl (Nat.le_of_ble_eq_true rfl) t187 ?_
                    exact V.ret (v := some (.int r184)) rfl (Or.inl ⟨_, rfl, dX9_readTerm_132, _, rfl, rfl⟩) ⟨Nat.le_refl _, Nat.le_refl _⟩ H188
                  · have H189 := H181.2 c182
                    refine V.lconst (v := 1) dX9_readTerm_122 (by decide) ?_
                    refine V.goto (tgt := 128) dX9_readTerm_123 (by decide) ?_
                    refine V.lmul dX9_readTerm_128 ?_
                    obtain ⟨r190, I191, L192, t193, H194⟩ := H189
                    refine V.cVi (N := mr_X9_readPower) (as := [.int (x3 + (1 : Int32)), .long ((1 : Int64) * (1 : Int64))]) dX9_readTerm_129 ml_X9_148 ok_X9_readPower okV_X9_readPower ⟨Nat.le_of_ble_eq_true rfl, Nat.le_of_ble_eq_true rfl⟩ h0.1 rfl rfl rfl (Nat.le_of_ble_eq_true rfl) t193 ?_
                    exact V.ret (v := some (.int r190)) rfl (Or.inl ⟨_, rfl, dX9_readTerm_132, _, rfl, rfl⟩) ⟨Nat.le_refl _, Nat.le_refl _⟩ H194
                · have H195 := H179.2 c180
                  refine V.aload_n dX9_readTerm_105 rfl rfl ?_
                  refine V.iload_n dX9_readTerm_106 rfl rfl ?_
                  obtain ⟨r196, I197, L198, t199, H200⟩ := H195
                  refine V.cVi (N := mr_X9_broken) (as := [.int x3]) dX9_readTerm_107 ml_X9_135 ok_X9_broken okV_X9_broken ⟨Nat.le_of_ble_eq_true rfl, Nat.le_of_ble_eq_true rfl⟩ h0.1 rfl rfl rfl (Nat.le_of_ble_eq_true rfl) t199 ?_
                  exact V.ret (v := some (.int r196)) rfl (Or.inl ⟨_, rfl, dX9_readTerm_110, _, rfl, rfl⟩) ⟨Nat.le_refl _, Nat.le_refl _⟩ H200
        · have H201 := H137.2 c138
          refine V.ldc2 kc_X9_146 dX9_readTerm_66 ?_
          refine V.goto (tgt := 73) dX9_readTerm_69 (by decide) ?_
          refine V.lstore (lo' := [(7, .long (-1 : Int64)), (0, .ref a0), (2, .int x2), (3, .int x3), (4, .long x4), (6, .int x6)]) dX9_readTerm_73 (by decide) rfl ?_
          refine V.aload_n dX9_readTerm_75 rfl rfl ?_
          refine V.iload_n dX9_readTerm_76 rfl rfl ?_
          obtain ⟨r202, I203, L204, t205, H206⟩ := H201
          refine V.cVi (N := mr_X9_at) (as := [.int x3]) dX9_readTerm_77 ml_X9_124 ok_X9_at okV_X9_at ⟨Nat.le_of_ble_eq_true rfl, Nat.le_of_ble_eq_true rfl⟩ h0.1 rfl rfl rfl (Nat.le_of_ble_eq_true rfl) t205 ?_
          refine V.bipush (v := (120)) dX9_readTerm_80 (by decide) ?_
          refine V.icmp_ne (tgt := 133) dX9_readTerm_82 (by decide) (fun c207 => ?_) (fun c207 => ?_)
          · have H208 := H206.1 c207
            refine V.iload dX9_readTerm_133 rfl ?_
            refine V.if_ne (tgt := 144) dX9_readTerm_135 (by decide) (fun c209 => ?_) (fun c209 => ?_)
            · have H210 := H208.1 c209
              refine V.aload_n dX9_readTerm_144 rfl rfl ?_
              refine V.getf (v := .ref (a0 + 8)) dX9_readTerm_145 fl_X9_33 h0.1 (by decide) rfl ?_
              refine V.iconst (v := (0)) dX9_readTerm_148 (by decide) ?_
              refine V.lload dX9_readTerm_149 rfl ?_
              refine V.lload dX9_readTerm_151 rfl ?_
              refine V.lmul dX9_readTerm_153 ?_
              refine V.last dX9_readTerm_154 h0.2.2.2.2.2.2.2.2.1 (mj_lit (by decide)) ?_
              refine V.aload_n dX9_readTerm_155 rfl rfl ?_
              refine V.iconst (v := (0)) dX9_readTerm_156 (by decide) ?_
              refine V.puti dX9_readTerm_157 fl_X9_132 fp_X9_132 (Or.inl rfl) h0.1 (by decide) rfl rfl ?_
              refine V.iload_n dX9_readTerm_160 rfl rfl ?_
              exact V.ret (v := some (.int x3)) rfl (Or.inl ⟨_, rfl, dX9_readTerm_161, _, rfl, rfl⟩) ⟨Nat.le_refl _, Nat.le_refl _⟩ H210
            · have H211 := H208.2 c209
              refine V.aload_n dX9_readTerm_138 rfl rfl ?_
              refine V.iload_n dX9_readTerm_139 rfl rfl ?_
              obtain ⟨r212, I213, L214, t215, H216⟩ := H211
              refine V.cVi (N := mr_X9_broken) (as := [.int x3]) dX9_readTerm_140 ml_X9_135 ok_X9_broken okV_X9_broken ⟨Nat.le_of_ble_eq_true rfl, Nat.le_of_ble_eq_true rfl⟩ h0.1 rfl rfl rfl (Nat.le_of_ble_eq_true rfl) t215 ?_
              exact V.ret (v := some (.int r212)) rfl (Or.inl ⟨_, rfl, dX9_readTerm_143, _, rfl, rfl⟩) ⟨Nat.le_refl _, Nat.le_refl _⟩ H216
          · have H217 := H206.2 c207
            refine V.aload_n dX9_readTerm_85 rfl rfl ?_
            refine V.getf (v := .int (I203 a0 13)) dX9_readTerm_86 fl_X9_132 h0.1 (by decide) rfl ?_
            refine V.iconst (v := (2)) dX9_readTerm_89 (by decide) ?_
            refine V.icmp_lt (tgt := 105) dX9_readTerm_90 (by decide) (fun c218 => ?_) (fun c218 => ?_)
            · have H219 := H217.1 c218
              refine V.aload_n dX9_readTerm_105 rfl rfl ?_
              refine V.iload_n dX9_readTerm_106 rfl rfl ?_
              obtain ⟨r220, I221, L222, t223, H224⟩ := H219
              refine V.cVi (N := mr_X9_broken) (as := [.int x3]) dX9_readTerm_107 ml_X9_135 ok_X9_broken okV_X9_broken ⟨Nat.le_of_ble_eq_true rfl, Nat.le_of_ble_eq_true rfl⟩ h0.1 rfl rfl rfl (Nat.le_of_ble_eq_true rfl) t223 ?_
              exact V.ret (v := some (.int r220)) rfl (Or.inl ⟨_, rfl, dX9_readTerm_110, _, rfl, rfl⟩) ⟨Nat.le_refl _, Nat.le_refl _⟩ H224
            · have H225 := H217.2 c218
              refine V.iload dX9_readTerm_93 rfl ?_
              refine V.if_le (tgt := 111) dX9_readTerm_95 (by decide) (fun c226 => ?_) (fun c226 => ?_)
              · have H227 := H225.1 c226
                refine V.aload_n dX9_readTerm_111 rfl rfl ?_
                refine V.iload_n dX9_readTerm_112 rfl rfl ?_
                refine V.iconst (v := (1)) dX9_readTerm_113 (by decide) ?_
                refine V.iadd dX9_readTerm_114 ?_
                refine V.lload dX9_readTerm_115 rfl ?_
                refine V.iload dX9_readTerm_117 rfl ?_
                refine V.if_ne (tgt := 126) dX9_readTerm_119 (by decide) (fun c228 => ?_) (fun c228 => ?_)
                · have H229 := H227.1 c228
                  refine V.lload dX9_readTerm_126 rfl ?_
                  refine V.lmul dX9_readTerm_128 ?_
                  obtain ⟨r230, I231, L232, t233, H234⟩ := H229
                  refine V.cVi (N := mr_X9_readPower) (as := [.int (x3 + (1 : Int32)), .long ((-1 : Int64) * x4)]) dX9_readTerm_129 ml_X9_148 ok_X9_readPower okV_X9_readPower ⟨Nat.le_of_ble_eq_true rfl, Nat.le_of_ble_eq_true rfl⟩ h0.1 rfl rfl rfl (Nat.le_of_ble_eq_true rfl) t233 ?_
                  exact V.ret (v := some (.int r230)) rfl (Or.inl ⟨_, rfl, dX9_readTerm_132, _, rfl, rfl⟩) ⟨Nat.le_refl _, Nat.le_refl _⟩ H234
                · have H235 := H227.2 c228
                  refine V.lconst (v := 1) dX9_readTerm_122 (by decide) ?_
                  refine V.goto (tgt := 128) dX9_readTerm_123 (by decide) ?_
                  refine V.lmul dX9_readTerm_128 ?_
                  obtain ⟨r236, I237, L238, t239, H240⟩ := H235
                  refine V.cVi (N := mr_X9_readPower) (as := [.int (x3 + (1 : Int32)), .long ((-1 : Int64) * (1 : Int64))]) dX9_readTerm_129 ml_X9_148 ok_X9_readPower okV_X9_readPower ⟨Nat.le_of_ble_eq_true rfl, Nat.le_of_ble_eq_true rfl⟩ h0.1 rfl rfl rfl (Nat.le_of_ble_eq_true rfl) t239 ?_
                  exact V.ret (v := some (.int r236)) rfl (Or.inl ⟨_, rfl, dX9_readTerm_132, _, rfl, rfl⟩) ⟨Nat.le_refl _, Nat.le_refl _⟩ H240
              · have H241 := H225.2 c226
                refine V.lload dX9_readTerm_98 rfl ?_
                refine V.lconst (v := 1) dX9_readTerm_100 (by decide) ?_
                refine V.lc_ne (tgt := 111) dX9_readTerm_101 dX9_readTerm_102 (by decide) (fun c242 => ?_) (fun c242 => ?_)
                · have H243 := H241.1 c242
                  refine V.aload_n dX9_readTerm_111 rfl rfl ?_
                  refine V.iload_n dX9_readTerm_112 rfl rfl ?_
                  refine V.iconst (v := (1)) dX9_readTerm_113 (by decide) ?_
                  refine V.iadd dX9_readTerm_114 ?_
                  refine V.lload dX9_readTerm_115 rfl ?_
                  refine V.iload dX9_readTerm_117 rfl ?_
                  refine V.if_ne (tgt := 126) dX9_readTerm_119 (by decide) (fun c244 => ?_) (fun c244 => ?_)
                  · have H245 := H243.1 c244
                    refine V.lload dX9_readTerm_126 rfl ?_
                    refine V.lmul dX9_readTerm_128 ?_
                    obtain ⟨r246, I247, L248, t249, H250⟩ := H245
                    refine V.cVi (N := mr_X9_readPower) (as := [.int (x3 + (1 : Int32)), .long ((-1 : Int64) * x4)]) dX9_readTerm_129 ml_X9_148 ok_X9_readPower okV_X9_readPower ⟨Nat.le_of_ble_eq_true rfl, Nat.le_of_ble_eq_true rfl⟩ h0.1 rfl rfl rfl (Nat.le_of_ble_eq_true rfl) t249 ?_
                    exact V.ret (v := some (.int r246)) rfl (Or.inl ⟨_, rfl, dX9_readTerm_132, _, rfl, rfl⟩) ⟨Nat.le_refl _, Nat.le_refl _⟩ H250
                  · have H251 := H243.2 c244
                    refine V.lconst (v := 1) dX9_readTerm_122 (by decide) ?_
                    refine V.goto (tgt := 128) dX9_readTerm_123 (by decide) ?_
                    refine V.lmul dX9_readTerm_128 ?_
                    obtain ⟨r252, I253, L254, t255, H256⟩ := H251
                    refine V.cVi (N := mr_X9_readPower) (as := [.int (x3 + (1 : Int32)), .long ((-1 : Int64) * (1 : Int64))]) dX9_readTerm_129 ml_X9_148 ok_X9_readPower okV_X9_readPower ⟨Nat.le_of_ble_eq_true rfl, Nat.le_of_ble_eq_true rfl⟩ h0.1 rfl rfl rfl (Nat.le_of_ble_eq_true rfl) t255 ?_
                    exact V.ret (v := some (.int r252)) rfl (Or.inl ⟨_, rfl, dX9_readTerm_132, _, rfl, rfl⟩) ⟨Nat.le_refl _, Nat.le_refl _⟩ H256
                · have H257 := H241.2 c242
                  refine V.aload_n dX9_readTerm_105 rfl rfl ?_
                  refine V.iload_n dX9_readTerm_106 rfl rfl ?_
                  obtain ⟨r258, I259, L260, t261, H262⟩ := H257
                  refine V.cVi (N := mr_X9_broken) (as := [.int x3]) dX9_readTerm_107 ml_X9_135 ok_X9_broken okV_X9_broken ⟨Nat.le_of_ble_eq_true rfl, Nat.le_of_ble_eq_true rfl⟩ h0.1 rfl rfl rfl (Nat.le_of_ble_eq_true rfl) t261 ?_
                  exact V.ret (v := some (.int r258)) rfl (Or.inl ⟨_, rfl, dX9_readTerm_110, _, rfl, rfl⟩) ⟨Nat.le_refl _, Nat.le_refl _⟩ H262
      · have H263 := H135.2 c136
        refine V.ldc2 kc_X9_142 dX9_readTerm_34 ?_
        refine V.lload dX9_readTerm_37 rfl ?_
        refine V.lmul dX9_readTerm_39 ?_
        refine V.aload_n dX9_readTerm_40 rfl rfl ?_
        refine V.iload_n dX9_readTerm_41 rfl rfl ?_
        obtain ⟨r264, I265, L266, t267, H268⟩ := H263
        refine V.cVi (N := mr_X9_at) (as := [.int x3]) dX9_readTerm_42 ml_X9_124 ok_X9_at okV_X9_at ⟨Nat.le_of_ble_eq_true rfl, Nat.le_of_ble_eq_true rfl⟩ h0.1 rfl rfl rfl (Nat.le_of_ble_eq_true rfl) t267 ?_
        refine V.i2l dX9_readTerm_45 ?_
        refine V.ladd dX9_readTerm_46 ?_
        refine V.ldc2 kc_X9_144 dX9_readTerm_47 ?_
        refine V.lsub dX9_readTerm_50 ?_
        refine V.topl (fun y269 e270 => ?_)
        have H271 := H268 y269 e270
        refine V.lstore (lo' := [(4, .long y269), (0, .ref a0), (2, .int x2), (3, .int x3), (6, .int x6)]) dX9_readTerm_51 (by decide) rfl ?_
        obtain ⟨y272, e273⟩ : ∃ y : Int32, y = x6 + 1 := ⟨_, rfl⟩
        have H274 := H271 y272 e273
        refine V.iinc (v := y272) (lo' := [(6, .int y272), (4, .long y269), (0, .ref a0), (2, .int x2), (3, .int x3)]) dX9_readTerm_53 rfl (by rw [e273]; rfl) (by decide) rfl ?_
        obtain ⟨y275, e276⟩ : ∃ y : Int32, y = x3 + 1 := ⟨_, rfl⟩
        have H277 := H274 y275 e276
        refine V.iinc (v := y275) (lo' := [(3, .int y275), (6, .int y272), (4, .long y269), (0, .ref a0), (2, .int x2)]) dX9_readTerm_56 rfl (by rw [e276]; rfl) (by decide) rfl ?_
        refine V.goto (tgt := 8) dX9_readTerm_59 (by decide) ?_
        exact V.los [3, 4, 0, 2, 1] rfl H277
    · have H278 := H128.2 c129
      refine V.iconst (v := (1)) dX9_readTerm_21 (by decide) ?_
      refine V.goto (tgt := 26) dX9_readTerm_22 (by decide) ?_
      refine V.bipush (v := (9)) dX9_readTerm_26 (by decide) ?_
      obtain ⟨r279, I280, L281, t282, H283⟩ := H278
      refine V.cVi (N := mr_X9_isFigure) (as := [.int x3, .int (1 : Int32), .int (9 : Int32)]) dX9_readTerm_28 ml_X9_138 ok_X9_isFigure okV_X9_isFigure ⟨Nat.le_of_ble_eq_true rfl, Nat.le_of_ble_eq_true rfl⟩ h0.1 rfl rfl rfl (Nat.le_of_ble_eq_true rfl) t282 ?_
      refine V.if_eq (tgt := 62) dX9_readTerm_31 (by decide) (fun c284 => ?_) (fun c284 => ?_)
      · have H285 := H283.1 c284
        refine V.iload_n dX9_readTerm_62 rfl rfl ?_
        refine V.if_eq (tgt := 72) dX9_readTerm_63 (by decide) (fun c286 => ?_) (fun c286 => ?_)
        · have H287 := H285.1 c286
          refine V.lconst (v := 1) dX9_readTerm_72 (by decide) ?_
          refine V.lstore (lo' := [(7, .long (1 : Int64)), (0, .ref a0), (2, .int x2), (3, .int x3), (4, .long x4), (6, .int x6)]) dX9_readTerm_73 (by decide) rfl ?_
          refine V.aload_n dX9_readTerm_75 rfl rfl ?_
          refine V.iload_n dX9_readTerm_76 rfl rfl ?_
          obtain ⟨r288, I289, L290, t291, H292⟩ := H287
          refine V.cVi (N := mr_X9_at) (as := [.int x3]) dX9_readTerm_77 ml_X9_124 ok_X9_at okV_X9_at ⟨Nat.le_of_ble_eq_true rfl, Nat.le_of_ble_eq_true rfl⟩ h0.1 rfl rfl rfl (Nat.le_of_ble_eq_true rfl) t291 ?_
          refine V.bipush (v := (120)) dX9_readTerm_80 (by decide) ?_
          refine V.icmp_ne (tgt := 133) dX9_readTerm_82 (by decide) (fun c293 => ?_) (fun c293 => ?_)
          · have H294 := H292.1 c293
            refine V.iload dX9_readTerm_133 rfl ?_
            refine V.if_ne (tgt := 144) dX9_readTerm_135 (by decide) (fun c295 => ?_) (fun c295 => ?_)
            · have H296 := H294.1 c295
              refine V.aload_n dX9_readTerm_144 rfl rfl ?_
              refine V.getf (v := .ref (a0 + 8)) dX9_readTerm_145 fl_X9_33 h0.1 (by decide) rfl ?_
              refine V.iconst (v := (0)) dX9_readTerm_148 (by decide) ?_
              refine V.lload dX9_readTerm_149 rfl ?_
              refine V.lload dX9_readTerm_151 rfl ?_
              refine V.lmul dX9_readTerm_153 ?_
              refine V.last dX9_readTerm_154 h0.2.2.2.2.2.2.2.2.1 (mj_lit (by decide)) ?_
              refine V.aload_n dX9_readTerm_155 rfl rfl ?_
              refine V.iconst (v := (0)) dX9_readTerm_156 (by decide) ?_
              refine V.puti dX9_readTerm_157 fl_X9_132 fp_X9_132 (Or.inl rfl) h0.1 (by decide) rfl rfl ?_
              refine V.iload_n dX9_readTerm_160 rfl rfl ?_
              exact V.ret (v := some (.int x3)) rfl (Or.inl ⟨_, rfl, dX9_readTerm_161, _, rfl, rfl⟩) ⟨Nat.le_refl _, Nat.le_refl _⟩ H296
            · have H297 := H294.2 c295
              refine V.aload_n dX9_readTerm_138 rfl rfl ?_
              refine V.iload_n dX9_readTerm_139 rfl rfl ?_
              obtain ⟨r298, I299, L300, t301, H302⟩ := H297
              refine V.cVi (N := mr_X9_broken) (as := [.int x3]) dX9_readTerm_140 ml_X9_135 ok_X9_broken okV_X9_broken ⟨Nat.le_of_ble_eq_true rfl, Nat.le_of_ble_eq_true rfl⟩ h0.1 rfl rfl rfl (Nat.le_of_ble_eq_true rfl) t301 ?_
              exact V.ret (v := some (.int r298)) rfl (Or.inl ⟨_, rfl, dX9_readTerm_143, _, rfl, rfl⟩) ⟨Nat.le_refl _, Nat.le_refl _⟩ H302
          · have H303 := H292.2 c293
            refine V.aload_n dX9_readTerm_85 rfl rfl ?_
            refine V.getf (v := .int (I289 a0 13)) dX9_readTerm_86 fl_X9_132 h0.1 (by decide) rfl ?_
            refine V.iconst (v := (2)) dX9_readTerm_89 (by decide) ?_
            refine V.icmp_lt (tgt := 105) dX9_readTerm_90 (by decide) (fun c304 => ?_) (fun c304 => ?_)
            · have H305 := H303.1 c304
              refine V.aload_n dX9_readTerm_105 rfl rfl ?_
              refine V.iload_n dX9_readTerm_106 rfl rfl ?_
              obtain ⟨r306, I307, L308, t309, H310⟩ := H305
              refine V.cVi (N := mr_X9_broken) (as := [.int x3]) dX9_readTerm_107 ml_X9_135 ok_X9_broken okV_X9_broken ⟨Nat.le_of_ble_eq_true rfl, Nat.le_of_ble_eq_true rfl⟩ h0.1 rfl rfl rfl (Nat.le_of_ble_eq_true rfl) t309 ?_
              exact V.ret (v := some (.int r306)) rfl (Or.inl ⟨_, rfl, dX9_readTerm_110, _, rfl, rfl⟩) ⟨Nat.le_refl _, Nat.le_refl _⟩ H310
            · have H311 := H303.2 c304
              refine V.iload dX9_readTerm_93 rfl ?_
              refine V.if_le (tgt := 111) dX9_readTerm_95 (by decide) (fun c312 => ?_) (fun c312 => ?_)
              · have H313 := H311.1 c312
                refine V.aload_n dX9_readTerm_111 rfl rfl ?_
                refine V.iload_n dX9_readTerm_112 rfl rfl ?_
                refine V.iconst (v := (1)) dX9_readTerm_113 (by decide) ?_
                refine V.iadd dX9_readTerm_114 ?_
                refine V.lload dX9_readTerm_115 rfl ?_
                refine V.iload dX9_readTerm_117 rfl ?_
                refine V.if_ne (tgt := 126) dX9_readTerm_119 (by decide) (fun c314 => ?_) (fun c314 => ?_)
                · have H315 := H313.1 c314
                  refine V.lload dX9_readTerm_126 rfl ?_
                  refine V.lmul dX9_readTerm_128 ?_
                  obtain ⟨r316, I317, L318, t319, H320⟩ := H315
                  refine V.cVi (N := mr_X9_readPower) (as := [.int (x3 + (1 : Int32)), .long ((1 : Int64) * x4)]) dX9_readTerm_129 ml_X9_148 ok_X9_readPower okV_X9_readPower ⟨Nat.le_of_ble_eq_true rfl, Nat.le_of_ble_eq_true rfl⟩ h0.1 rfl rfl rfl (Nat.le_of_ble_eq_true rfl) t319 ?_
                  exact V.ret (v := some (.int r316)) rfl (Or.inl ⟨_, rfl, dX9_readTerm_132, _, rfl, rfl⟩) ⟨Nat.le_refl _, Nat.le_refl _⟩ H320
                · have H321 := H313.2 c314
                  refine V.lconst (v := 1) dX9_readTerm_122 (by decide) ?_
                  refine V.goto (tgt := 128) dX9_readTerm_123 (by decide) ?_
                  refine V.lmul dX9_readTerm_128 ?_
                  obtain ⟨r322, I323, L324, t325, H326⟩ := H321
                  refine V.cVi (N := mr_X9_readPower) (as := [.int (x3 + (1 : Int32)), .long ((1 : Int64) * (1 : Int64))]) dX9_readTerm_129 ml_X9_148 ok_X9_readPower okV_X9_readPower ⟨Nat.le_of_ble_eq_true rfl, Nat.le_of_ble_eq_true rfl⟩ h0.1 rfl rfl rfl (Nat.le_of_ble_eq_true rfl) t325 ?_
                  exact V.ret (v := some (.int r322)) rfl (Or.inl ⟨_, rfl, dX9_readTerm_132, _, rfl, rfl⟩) ⟨Nat.le_refl _, Nat.le_refl _⟩ H326
              · have H327 := H311.2 c312
                refine V.lload dX9_readTerm_98 rfl ?_
                refine V.lconst (v := 1) dX9_readTerm_100 (by decide) ?_
                refine V.lc_ne (tgt := 111) dX9_readTerm_101 dX9_readTerm_102 (by decide) (fun c328 => ?_) (fun c328 => ?_)
                · have H329 := H327.1 c328
                  refine V.aload_n dX9_readTerm_111 rfl rfl ?_
                  refine V.iload_n dX9_readTerm_112 rfl rfl ?_
                  refine V.iconst (v := (1)) dX9_readTerm_113 (by decide) ?_
                  refine V.iadd dX9_readTerm_114 ?_
                  refine V.lload dX9_readTerm_115 rfl ?_
                  refine V.iload dX9_readTerm_117 rfl ?_
                  refine V.if_ne (tgt := 126) dX9_readTerm_119 (by decide) (fun c330 => ?_) (fun c330 => ?_)
                  · have H331 := H329.1 c330
                    refine V.lload dX9_readTerm_126 rfl ?_
                    refine V.lmul dX9_readTerm_128 ?_
                    obtain ⟨r332, I333, L334, t335, H336⟩ := H331
                    refine V.cVi (N := mr_X9_readPower) (as := [.int (x3 + (1 : Int32)), .long ((1 : Int64) * x4)]) dX9_readTerm_129 ml_X9_148 ok_X9_readPower okV_X9_readPower ⟨Nat.le_of_ble_eq_true rfl, Nat.le_of_ble_eq_true rfl⟩ h0.1 rfl rfl rfl (Nat.le_of_ble_eq_true rfl) t335 ?_
                    exact V.ret (v := some (.int r332)) rfl (Or.inl ⟨_, rfl, dX9_readTerm_132, _, rfl, rfl⟩) ⟨Nat.le_refl _, Nat.le_refl _⟩ H336
                  · have H337 := H329.2 c330
                    refine V.lconst (v := 1) dX9_readTerm_122 (by decide) ?_
                    refine V.goto (tgt := 128) dX9_readTerm_123 (by decide) ?_
                    refine V.lmul dX9_readTerm_128 ?_
                    obtain ⟨r338, I339, L340, t341, H342⟩ := H337
                    refine V.cVi (N := mr_X9_readPower) (as := [.int (x3 + (1 : Int32)), .long ((1 : Int64) * (1 : Int64))]) dX9_readTerm_129 ml_X9_148 ok_X9_readPower okV_X9_readPower ⟨Nat.le_of_ble_eq_true rfl, Nat.le_of_ble_eq_true rfl⟩ h0.1 rfl rfl rfl (Nat.le_of_ble_eq_true rfl) t341 ?_
                    exact V.ret (v := some (.int r338)) rfl (Or.inl ⟨_, rfl, dX9_readTerm_132, _, rfl, rfl⟩) ⟨Nat.le_refl _, Nat.le_refl _⟩ H342
                · have H343 := H327.2 c328
                  refine V.aload_n dX9_readTerm_105 rfl rfl ?_
                  refine V.iload_n dX9_readTerm_106 rfl rfl ?_
                  obtain ⟨r344, I345, L346, t347, H348⟩ := H343
                  refine V.cVi (N := mr_X9_broken) (as := [.int x3]) dX9_readTerm_107 ml_X9_135 ok_X9_broken okV_X9_broken ⟨Nat.le_of_ble_eq_true rfl, Nat.le_of_ble_eq_true rfl⟩ h0.1 rfl rfl rfl (Nat.le_of_ble_eq_true rfl) t347 ?_
                  exact V.ret (v := some (.int r344)) rfl (Or.inl ⟨_, rfl, dX9_readTerm_110, _, rfl, rfl⟩) ⟨Nat.le_refl _, Nat.le_refl _⟩ H348
        · have H349 := H285.2 c286
          refine V.ldc2 kc_X9_146 dX9_readTerm_66 ?_
          refine V.goto (tgt := 73) dX9_readTerm_69 (by decide) ?_
          refine V.lstore (lo' := [(7, .long (-1 : Int64)), (0, .ref a0), (2, .int x2), (3, .int x3), (4, .long x4), (6, .int x6)]) dX9_readTerm_73 (by decide) rfl ?_
          refine V.aload_n dX9_readTerm_75 rfl rfl ?_
          refine V.iload_n dX9_readTerm_76 rfl rfl ?_
          obtain ⟨r350, I351, L352, t353, H354⟩ := H349
          refine V.cVi (N := mr_X9_at) (as := [.int x3]) dX9_readTerm_77 ml_X9_124 ok_X9_at okV_X9_at ⟨Nat.le_of_ble_eq_true rfl, Nat.le_of_ble_eq_true rfl⟩ h0.1 rfl rfl rfl (Nat.le_of_ble_eq_true rfl) t353 ?_
          refine V.bipush (v := (120)) dX9_readTerm_80 (by decide) ?_
          refine V.icmp_ne (tgt := 133) dX9_readTerm_82 (by decide) (fun c355 => ?_) (fun c355 => ?_)
          · have H356 := H354.1 c355
            refine V.iload dX9_readTerm_133 rfl ?_
            refine V.if_ne (tgt := 144) dX9_readTerm_135 (by decide) (fun c357 => ?_) (fun c357 => ?_)
            · have H358 := H356.1 c357
              refine V.aload_n dX9_readTerm_144 rfl rfl ?_
              refine V.getf (v := .ref (a0 + 8)) dX9_readTerm_145 fl_X9_33 h0.1 (by decide) rfl ?_
              refine V.iconst (v := (0)) dX9_readTerm_148 (by decide) ?_
              refine V.lload dX9_readTerm_149 rfl ?_
              refine V.lload dX9_readTerm_151 rfl ?_
              refine V.lmul dX9_readTerm_153 ?_
              refine V.last dX9_readTerm_154 h0.2.2.2.2.2.2.2.2.1 (mj_lit (by decide)) ?_
              refine V.aload_n dX9_readTerm_155 rfl rfl ?_
              refine V.iconst (v := (0)) dX9_readTerm_156 (by decide) ?_
              refine V.puti dX9_readTerm_157 fl_X9_132 fp_X9_132 (Or.inl rfl) h0.1 (by decide) rfl rfl ?_
              refine V.iload_n dX9_readTerm_160 rfl rfl ?_
              exact V.ret (v := some (.int x3)) rfl (Or.inl ⟨_, rfl, dX9_readTerm_161, _, rfl, rfl⟩) ⟨Nat.le_refl _, Nat.le_refl _⟩ H358
            · have H359 := H356.2 c357
              refine V.aload_n dX9_readTerm_138 rfl rfl ?_
              refine V.iload_n dX9_readTerm_139 rfl rfl ?_
              obtain ⟨r360, I361, L362, t363, H364⟩ := H359
              refine V.cVi (N := mr_X9_broken) (as := [.int x3]) dX9_readTerm_140 ml_X9_135 ok_X9_broken okV_X9_broken ⟨Nat.le_of_ble_eq_true rfl, Nat.le_of_ble_eq_true rfl⟩ h0.1 rfl rfl rfl (Nat.le_of_ble_eq_true rfl) t363 ?_
              exact V.ret (v := some (.int r360)) rfl (Or.inl ⟨_, rfl, dX9_readTerm_143, _, rfl, rfl⟩) ⟨Nat.le_refl _, Nat.le_refl _⟩ H364
          · have H365 := H354.2 c355
            refine V.aload_n dX9_readTerm_85 rfl rfl ?_
            refine V.getf (v := .int (I351 a0 13)) dX9_readTerm_86 fl_X9_132 h0.1 (by decide) rfl ?_
            refine V.iconst (v := (2)) dX9_readTerm_89 (by decide) ?_
            refine V.icmp_lt (tgt := 105) dX9_readTerm_90 (by decide) (fun c366 => ?_) (fun c366 => ?_)
            · have H367 := H365.1 c366
              refine V.aload_n dX9_readTerm_105 rfl rfl ?_
              refine V.iload_n dX9_readTerm_106 rfl rfl ?_
              obtain ⟨r368, I369, L370, t371, H372⟩ := H367
              refine V.cVi (N := mr_X9_broken) (as := [.int x3]) dX9_readTerm_107 ml_X9_135 ok_X9_broken okV_X9_broken ⟨Nat.le_of_ble_eq_true rfl, Nat.le_of_ble_eq_true rfl⟩ h0.1 rfl rfl rfl (Nat.le_of_ble_eq_true rfl) t371 ?_
              exact V.ret (v := some (.int r368)) rfl (Or.inl ⟨_, rfl, dX9_readTerm_110, _, rfl, rfl⟩) ⟨Nat.le_refl _, Nat.le_refl _⟩ H372
            · have H373 := H365.2 c366
              refine V.iload dX9_readTerm_93 rfl ?_
              refine V.if_le (tgt := 111) dX9_readTerm_95 (by decide) (fun c374 => ?_) (fun c374 => ?_)
              · have H375 := H373.1 c374
                refine V.aload_n dX9_readTerm_111 rfl rfl ?_
                refine V.iload_n dX9_readTerm_112 rfl rfl ?_
                refine V.iconst (v := (1)) dX9_readTerm_113 (by decide) ?_
                refine V.iadd dX9_readTerm_114 ?_
                refine V.lload dX9_readTerm_115 rfl ?_
                refine V.iload dX9_readTerm_117 rfl ?_
                refine V.if_ne (tgt := 126) dX9_readTerm_119 (by decide) (fun c376 => ?_) (fun c376 => ?_)
                · have H377 := H375.1 c376
                  refine V.lload dX9_readTerm_126 rfl ?_
                  refine V.lmul dX9_readTerm_128 ?_
                  obtain ⟨r378, I379, L380, t381, H382⟩ := H377
                  refine V.cVi (N := mr_X9_readPower) (as := [.int (x3 + (1 : Int32)), .long ((-1 : Int64) * x4)]) dX9_readTerm_129 ml_X9_148 ok_X9_readPower okV_X9_readPower ⟨Nat.le_of_ble_eq_true rfl, Nat.le_of_ble_eq_true rfl⟩ h0.1 rfl rfl rfl (Nat.le_of_ble_eq_true rfl) t381 ?_
                  exact V.ret (v := some (.int r378)) rfl (Or.inl ⟨_, rfl, dX9_readTerm_132, _, rfl, rfl⟩) ⟨Nat.le_refl _, Nat.le_refl _⟩ H382
                · have H383 := H375.2 c376
                  refine V.lconst (v := 1) dX9_readTerm_122 (by decide) ?_
                  refine V.goto (tgt := 128) dX9_readTerm_123 (by decide) ?_
                  refine V.lmul dX9_readTerm_128 ?_
                  obtain ⟨r384, I385, L386, t387, H388⟩ := H383
                  refine V.cVi (N := mr_X9_readPower) (as := [.int (x3 + (1 : Int32)), .long ((-1 : Int64) * (1 : Int64))]) dX9_readTerm_129 ml_X9_148 ok_X9_readPower okV_X9_readPower ⟨Nat.le_of_ble_eq_true rfl, Nat.le_of_ble_eq_true rfl⟩ h0.1 rfl rfl rfl (Nat.le_of_ble_eq_true rfl) t387 ?_
                  exact V.ret (v := some (.int r384)) rfl (Or.inl ⟨_, rfl, dX9_readTerm_132, _, rfl, rfl⟩) ⟨Nat.le_refl _, Nat.le_refl _⟩ H388
              · have H389 := H373.2 c374
                refine V.lload dX9_readTerm_98 rfl ?_
                refine V.lconst (v := 1) dX9_readTerm_100 (by decide) ?_
                refine V.lc_ne (tgt := 111) dX9_readTerm_101 dX9_readTerm_102 (by decide) (fun c390 => ?_) (fun c390 => ?_)
                · have H391 := H389.1 c390
                  refine V.aload_n dX9_readTerm_111 rfl rfl ?_
                  refine V.iload_n dX9_readTerm_112 rfl rfl ?_
                  refine V.iconst (v := (1)) dX9_readTerm_113 (by decide) ?_
                  refine V.iadd dX9_readTerm_114 ?_
                  refine V.lload dX9_readTerm_115 rfl ?_
                  refine V.iload dX9_readTerm_117 rfl ?_
                  refine V.if_ne (tgt := 126) dX9_readTerm_119 (by decide) (fun c392 => ?_) (fun c392 => ?_)
                  · have H393 := H391.1 c392
                    refine V.lload dX9_readTerm_126 rfl ?_
                    refine V.lmul dX9_readTerm_128 ?_
                    obtain ⟨r394, I395, L396, t397, H398⟩ := H393
                    refine V.cVi (N := mr_X9_readPower) (as := [.int (x3 + (1 : Int32)), .long ((-1 : Int64) * x4)]) dX9_readTerm_129 ml_X9_148 ok_X9_readPower okV_X9_readPower ⟨Nat.le_of_ble_eq_true rfl, Nat.le_of_ble_eq_true rfl⟩ h0.1 rfl rfl rfl (Nat.le_of_ble_eq_true rfl) t397 ?_
                    exact V.ret (v := some (.int r394)) rfl (Or.inl ⟨_, rfl, dX9_readTerm_132, _, rfl, rfl⟩) ⟨Nat.le_refl _, Nat.le_refl _⟩ H398
                  · have H399 := H391.2 c392
                    refine V.lconst (v := 1) dX9_readTerm_122 (by decide) ?_
                    refine V.goto (tgt := 128) dX9_readTerm_123 (by decide) ?_
                    refine V.lmul dX9_readTerm_128 ?_
                    obtain ⟨r400, I401, L402, t403, H404⟩ := H399
                    refine V.cVi (N := mr_X9_readPower) (as := [.int (x3 + (1 : Int32)), .long ((-1 : Int64) * (1 : Int64))]) dX9_readTerm_129 ml_X9_148 ok_X9_readPower okV_X9_readPower ⟨Nat.le_of_ble_eq_true rfl, Nat.le_of_ble_eq_true rfl⟩ h0.1 rfl rfl rfl (Nat.le_of_ble_eq_true rfl) t403 ?_
                    exact V.ret (v := some (.int r400)) rfl (Or.inl ⟨_, rfl, dX9_readTerm_132, _, rfl, rfl⟩) ⟨Nat.le_refl _, Nat.le_refl _⟩ H404
                · have H405 := H389.2 c390
                  refine V.aload_n dX9_readTerm_105 rfl rfl ?_
                  refine V.iload_n dX9_readTerm_106 rfl rfl ?_
                  obtain ⟨r406, I407, L408, t409, H410⟩ := H405
                  refine V.cVi (N := mr_X9_broken) (as := [.int x3]) dX9_readTerm_107 ml_X9_135 ok_X9_broken okV_X9_broken ⟨Nat.le_of_ble_eq_true rfl, Nat.le_of_ble_eq_true rfl⟩ h0.1 rfl rfl rfl (Nat.le_of_ble_eq_true rfl) t409 ?_
                  exact V.ret (v := some (.int r406)) rfl (Or.inl ⟨_, rfl, dX9_readTerm_110, _, rfl, rfl⟩) ⟨Nat.le_refl _, Nat.le_refl _⟩ H410
      · have H411 := H283.2 c284
        refine V.ldc2 kc_X9_142 dX9_readTerm_34 ?_
        refine V.lload dX9_readTerm_37 rfl ?_
        refine V.lmul dX9_readTerm_39 ?_
        refine V.aload_n dX9_readTerm_40 rfl rfl ?_
        refine V.iload_n dX9_readTerm_41 rfl rfl ?_
        obtain ⟨r412, I413, L414, t415, H416⟩ := H411
        refine V.cVi (N := mr_X9_at) (as := [.int x3]) dX9_readTerm_42 ml_X9_124 ok_X9_at okV_X9_at ⟨Nat.le_of_ble_eq_true rfl, Nat.le_of_ble_eq_true rfl⟩ h0.1 rfl rfl rfl (Nat.le_of_ble_eq_true rfl) t415 ?_
        refine V.i2l dX9_readTerm_45 ?_
        refine V.ladd dX9_readTerm_46 ?_
        refine V.ldc2 kc_X9_144 dX9_readTerm_47 ?_
        refine V.lsub dX9_readTerm_50 ?_
        refine V.topl (fun y417 e418 => ?_)
        have H419 := H416 y417 e418
        refine V.lstore (lo' := [(4, .long y417), (0, .ref a0), (2, .int x2), (3, .int x3), (6, .int x6)]) dX9_readTerm_51 (by decide) rfl ?_
        obtain ⟨y420, e421⟩ : ∃ y : Int32, y = x6 + 1 := ⟨_, rfl⟩
        have H422 := H419 y420 e421
        refine V.iinc (v := y420) (lo' := [(6, .int y420), (4, .long y417), (0, .ref a0), (2, .int x2), (3, .int x3)]) dX9_readTerm_53 rfl (by rw [e421]; rfl) (by decide) rfl ?_
        obtain ⟨y423, e424⟩ : ∃ y : Int32, y = x3 + 1 := ⟨_, rfl⟩
        have H425 := H422 y423 e424
        refine V.iinc (v := y423) (lo' := [(3, .int y423), (6, .int y420), (4, .long y417), (0, .ref a0), (2, .int x2)]) dX9_readTerm_56 rfl (by rw [e424]; rfl) (by decide) rfl ?_
        refine V.goto (tgt := 8) dX9_readTerm_59 (by decide) ?_
        exact V.los [3, 4, 0, 2, 1] rfl H425
set_option maxRecDepth 100000 in
set_option maxHeartbeats 4000000 in
theorem wp_X9_readTerm {S : List mjD} {RET : Option Value → mjH → Prop} {m : Nat} (hm : is_Model S m) {a : Int32} {b : Int32} {I : Nat → Nat → Int32} {L : Nat → Nat → Int64} (H0 : hd_X9_readTerm_8 S RET m b a (0 : Int64) (0 : Int32) I L) : CT mr_X9_readTerm (0, 0) [.ref m, .int a, .int b] (S, I, L) RET := by
  refine CT.of (lo := [(0, .ref m), (1, .int a), (2, .int b)]) (by decide) (fun _ _ => Nat.le_of_ble_eq_true rfl) (fun _ _ => rfl) rfl ?_
  refine V.iload_n dX9_readTerm_0 rfl rfl ?_
  refine V.istore_n (lo' := [(3, .int a), (0, .ref m), (1, .int a), (2, .int b)]) dX9_readTerm_1 rfl (by decide) rfl ?_
  refine V.lconst (v := 0) dX9_readTerm_2 (by decide) ?_
  refine V.lstore (lo' := [(4, .long (0 : Int64)), (3, .int a), (0, .ref m), (1, .int a), (2, .int b)]) dX9_readTerm_3 (by decide) rfl ?_
  refine V.iconst (v := (0)) dX9_readTerm_5 (by decide) ?_
  refine V.istore (lo' := [(6, .int (0 : Int32)), (4, .long (0 : Int64)), (3, .int a), (0, .ref m), (1, .int a), (2, .int b)]) dX9_readTerm_6 (by decide) rfl ?_
  exact V.los [3, 5, 2, 1, 0] rfl H0
def hd_X9_findLine_54 (S : List mjD) (RET : Option Value → mjH → Prop) (a0 : Nat) (x1 : Int64) (x3 : Int64) (x5 : Int64) (I : Nat → Nat → Int32) (L : Nat → Nat → Int64) : Prop := V mr_X9_findLine (0, 0) RET 54 [(0, .ref a0), (1, .long x1), (3, .long x3), (5, .long x5)] [] (S, I, L) (0, 0)
def hd_X9_findLine_64 (S : List mjD) (RET : Option Value → mjH → Prop) (a0 : Nat) (x1 : Int64) (x3 : Int64) (x5 : Int64) (x7 : Int64) (I : Nat → Nat → Int32) (L : Nat → Nat → Int64) : Prop := V mr_X9_findLine (0, 0) RET 64 [(0, .ref a0), (1, .long x1), (3, .long x3), (5, .long x5), (7, .long x7)] [] (S, I, L) (0, 0)
set_option maxRecDepth 100000 in
set_option maxHeartbeats 4000000 in
theorem it_X9_findLine_54 {S : List mjD} {RET : Option Value → mjH → Prop} {a0 : Nat} (h0 : is_Model S a0) {x1 : Int64} {x3 : Int64} {x5 : Int64} {I : Nat → Nat → Int32} {L : Nat → Nat → Int64} (H0 : ((x1 < x5 → RET (some (.int (0 : Int32))) (S, I, L)) ∧ (¬ x1 < x5 → hd_X9_findLine_64 S RET a0 x1 x3 x5 (1 : Int64) I L))) : hd_X9_findLine_54 S RET a0 x1 x3 x5 I L := by
  unfold hd_X9_findLine_54
  refine V.lload dX9_findLine_54 rfl ?_
  refine V.lload_n dX9_findLine_56 rfl rfl ?_
  refine V.lc_gt (tgt := 156) dX9_findLine_57 dX9_findLine_58 (by decide) (fun c26 => ?_) (fun c26 => ?_)
  · have H27 := H0.1 c26
    refine V.iconst (v := (0)) dX9_findLine_156 (by decide) ?_
    exact V.ret (v := some (.int (0 : Int32))) rfl (Or.inl ⟨_, rfl, dX9_findLine_157, _, rfl, (by decide)⟩) ⟨Nat.le_refl _, Nat.le_refl _⟩ H27
  · have H28 := H0.2 c26
    refine V.lconst (v := 1) dX9_findLine_61 (by decide) ?_
    refine V.lstore (lo' := [(7, .long (1 : Int64)), (0, .ref a0), (1, .long x1), (3, .long x3), (5, .long x5)]) dX9_findLine_62 (by decide) rfl ?_
    exact V.los [1, 2, 3, 4, 0] rfl H28
set_option maxRecDepth 100000 in
set_option maxHeartbeats 4000000 in
theorem it_X9_findLine_64 {S : List mjD} {RET : Option Value → mjH → Prop} {a0 : Nat} (h0 : is_Model S a0) {x1 : Int64} {x3 : Int64} {x5 : Int64} {x7 : Int64} {I : Nat → Nat → Int32} {L : Nat → Nat → Int64} (H0 : (¬ x5 = 0) ∧ ((¬ (x1 - x1 / x5 * x5) = (0 : Int64) → ∀ y33 : Int64, y33 = (x5 + (1 : Int64)) → hd_X9_findLine_54 S RET a0 x1 x3 y33 I L) ∧ ((x1 - x1 / x5 * x5) = (0 : Int64) → ((x3 < x7 → ∀ y39 : Int64, y39 = (x5 + (1 : Int64)) → hd_X9_findLine_54 S RET a0 x1 x3 y39 I L) ∧ (¬ x3 < x7 → (¬ x7 = 0) ∧ ((¬ (x3 - x3 / x7 * x7) = (0 : Int64) → ∀ y47 : Int64, y47 = (x7 + (1 : Int64)) → hd_X9_findLine_64 S RET a0 x1 x3 x5 y47 I L) ∧ ((x3 - x3 / x7 * x7) = (0 : Int64) → ∃ r51 I52 L53, CTl mr_X9_divisor [.long x7, .long x5] S I L r51 I52 L53 ∧ ((¬ r51 = (1 : Int64) → ∀ y58 : Int64, y58 = (x7 + (1 : Int64)) → hd_X9_findLine_64 S RET a0 x1 x3 x5 y58 I52 L53) ∧ (r51 = (1 : Int64) → ∃ r62 I63 L64, CTi mr_X9_triesLine [.ref a0, .long x5, .long (-x7)] S I52 L53 r62 I63 L64 ∧ ((¬ r62 = 0 → RET (some (.int (1 : Int32))) (S, I63, L64)) ∧ (r62 = 0 → ∃ r70 I71 L72, CTi mr_X9_triesLine [.ref a0, .long x5, .long x7] S I63 L64 r70 I71 L72 ∧ ((r70 = 0 → ∀ y77 : Int64, y77 = (x7 + (1 : Int64)) → hd_X9_findLine_64 S RET a0 x1 x3 x5 y77 I71 L72) ∧ (¬ r70 = 0 → RET (some (.int (1 : Int32))) (S, I71, L72)))))))))))))) : hd_X9_findLine_64 S RET a0 x1 x3 x5 x7 I L := by
  unfold hd_X9_findLine_64
  refine V.lload_n dX9_findLine_64 rfl rfl ?_
  refine V.lload dX9_findLine_65 rfl ?_
  obtain ⟨o29, H30⟩ := H0
  refine V.lrem dX9_findLine_67 o29 ?_
  refine V.lconst (v := 0) dX9_findLine_68 (by decide) ?_
  refine V.lc_ne (tgt := 147) dX9_findLine_69 dX9_findLine_70 (by decide) (fun c31 => ?_) (fun c31 => ?_)
  · have H32 := H30.1 c31
    refine V.lload dX9_findLine_147 rfl ?_
    refine V.lconst (v := 1) dX9_findLine_149 (by decide) ?_
    refine V.ladd dX9_findLine_150 ?_
    refine V.topl (fun y33 e34 => ?_)
    have H35 := H32 y33 e34
    refine V.lstore (lo' := [(5, .long y33), (0, .ref a0), (1, .long x1), (3, .long x3), (7, .long x7)]) dX9_findLine_151 (by decide) rfl ?_
    refine V.goto (tgt := 54) dX9_findLine_153 (by decide) ?_
    exact V.los [1, 2, 3, 0] rfl H35
  · have H36 := H30.2 c31
    refine V.lload dX9_findLine_73 rfl ?_
    refine V.lload_n dX9_findLine_75 rfl rfl ?_
    refine V.lc_gt (tgt := 147) dX9_findLine_76 dX9_findLine_77 (by decide) (fun c37 => ?_) (fun c37 => ?_)
    · have H38 := H36.1 c37
      refine V.lload dX9_findLine_147 rfl ?_
      refine V.lconst (v := 1) dX9_findLine_149 (by decide) ?_
      refine V.ladd dX9_findLine_150 ?_
      refine V.topl (fun y39 e40 => ?_)
      have H41 := H38 y39 e40
      refine V.lstore (lo' := [(5, .long y39), (0, .ref a0), (1, .long x1), (3, .long x3), (7, .long x7)]) dX9_findLine_151 (by decide) rfl ?_
      refine V.goto (tgt := 54) dX9_findLine_153 (by decide) ?_
      exact V.los [1, 2, 3, 0] rfl H41
    · have H42 := H36.2 c37
      refine V.lload_n dX9_findLine_80 rfl rfl ?_
      refine V.lload dX9_findLine_81 rfl ?_
      obtain ⟨o43, H44⟩ := H42
      refine V.lrem dX9_findLine_83 o43 ?_
      refine V.lconst (v := 0) dX9_findLine_84 (by decide) ?_
      refine V.lc_ne (tgt := 105) dX9_findLine_85 dX9_findLine_86 (by decide) (fun c45 => ?_) (fun c45 => ?_)
      · have H46 := H44.1 c45
        refine V.iconst (v := (0)) dX9_findLine_105 (by decide) ?_
        refine V.istore (lo' := [(9, .int (0 : Int32)), (0, .ref a0), (1, .long x1), (3, .long x3), (5, .long x5), (7, .long x7)]) dX9_findLine_106 (by decide) rfl ?_
        refine V.iload dX9_findLine_108 rfl ?_
        refine V.if_eq (tgt := 138) dX9_findLine_110 (by decide) (fun _ => ?_) (fun c => absurd c (by decide))
        refine V.lload dX9_findLine_138 rfl ?_
        refine V.lconst (v := 1) dX9_findLine_140 (by decide) ?_
        refine V.ladd dX9_findLine_141 ?_
        refine V.topl (fun y47 e48 => ?_)
        have H49 := H46 y47 e48
        refine V.lstore (lo' := [(7, .long y47), (9, .int (0 : Int32)), (0, .ref a0), (1, .long x1), (3, .long x3), (5, .long x5)]) dX9_findLine_142 (by decide) rfl ?_
        refine V.goto (tgt := 64) dX9_findLine_144 (by decide) ?_
        exact V.los [2, 3, 4, 5, 0] rfl H49
      · have H50 := H44.2 c45
        refine V.lload dX9_findLine_89 rfl ?_
        refine V.lload dX9_findLine_91 rfl ?_
        obtain ⟨r51, I52, L53, t54, H55⟩ := H50
        refine V.cSl (N := mr_X9_divisor) (as := [.long x7, .long x5]) dX9_findLine_93 ml_X9_214 ok_X9_divisor okS_X9_divisor ⟨Nat.le_of_ble_eq_true rfl, Nat.le_of_ble_eq_true rfl⟩ rfl rfl (Nat.le_of_ble_eq_true rfl) t54 ?_
        refine V.lconst (v := 1) dX9_findLine_96 (by decide) ?_
        refine V.lc_ne (tgt := 105) dX9_findLine_97 dX9_findLine_98 (by decide) (fun c56 => ?_) (fun c56 => ?_)
        · have H57 := H55.1 c56
          refine V.iconst (v := (0)) dX9_findLine_105 (by decide) ?_
          refine V.istore (lo' := [(9, .int (0 : Int32)), (0, .ref a0), (1, .long x1), (3, .long x3), (5, .long x5), (7, .long x7)]) dX9_findLine_106 (by decide) rfl ?_
          refine V.iload dX9_findLine_108 rfl ?_
          refine V.if_eq (tgt := 138) dX9_findLine_110 (by decide) (fun _ => ?_) (fun c => absurd c (by decide))
          refine V.lload dX9_findLine_138 rfl ?_
          refine V.lconst (v := 1) dX9_findLine_140 (by decide) ?_
          refine V.ladd dX9_findLine_141 ?_
          refine V.topl (fun y58 e59 => ?_)
          have H60 := H57 y58 e59
          refine V.lstore (lo' := [(7, .long y58), (9, .int (0 : Int32)), (0, .ref a0), (1, .long x1), (3, .long x3), (5, .long x5)]) dX9_findLine_142 (by decide) rfl ?_
          refine V.goto (tgt := 64) dX9_findLine_144 (by decide) ?_
          exact V.los [2, 3, 4, 5, 0] rfl H60
        · have H61 := H55.2 c56
          refine V.iconst (v := (1)) dX9_findLine_101 (by decide) ?_
          refine V.goto (tgt := 106) dX9_findLine_102 (by decide) ?_
          refine V.istore (lo' := [(9, .int (1 : Int32)), (0, .ref a0), (1, .long x1), (3, .long x3), (5, .long x5), (7, .long x7)]) dX9_findLine_106 (by decide) rfl ?_
          refine V.iload dX9_findLine_108 rfl ?_
          refine V.if_eq (tgt := 138) dX9_findLine_110 (by decide) (fun c => absurd c (by decide)) (fun _ => ?_)
          refine V.aload_n dX9_findLine_113 rfl rfl ?_
          refine V.lload dX9_findLine_114 rfl ?_
          refine V.lload dX9_findLine_116 rfl ?_
          refine V.lneg dX9_findLine_118 ?_
          obtain ⟨r62, I63, L64, t65, H66⟩ := H61
          refine V.cVi (N := mr_X9_triesLine) (as := [.long x5, .long (-x7)]) dX9_findLine_119 ml_X9_210 ok_X9_triesLine okV_X9_triesLine ⟨Nat.le_of_ble_eq_true rfl, Nat.le_of_ble_eq_true rfl⟩ h0.1 rfl rfl rfl (Nat.le_of_ble_eq_true rfl) t65 ?_
          refine V.if_ne (tgt := 136) dX9_findLine_122 (by decide) (fun c67 => ?_) (fun c67 => ?_)
          · have H68 := H66.1 c67
            refine V.iconst (v := (1)) dX9_findLine_136 (by decide) ?_
            exact V.ret (v := some (.int (1 : Int32))) rfl (Or.inl ⟨_, rfl, dX9_findLine_137, _, rfl, (by decide)⟩) ⟨Nat.le_refl _, Nat.le_refl _⟩ H68
          · have H69 := H66.2 c67
            refine V.aload_n dX9_findLine_125 rfl rfl ?_
            refine V.lload dX9_findLine_126 rfl ?_
            refine V.lload dX9_findLine_128 rfl ?_
            obtain ⟨r70, I71, L72, t73, H74⟩ := H69
            refine V.cVi (N := mr_X9_triesLine) (as := [.long x5, .long x7]) dX9_findLine_130 ml_X9_210 ok_X9_triesLine okV_X9_triesLine ⟨Nat.le_of_ble_eq_true rfl, Nat.le_of_ble_eq_true rfl⟩ h0.1 rfl rfl rfl (Nat.le_of_ble_eq_true rfl) t73 ?_
            refine V.if_eq (tgt := 138) dX9_findLine_133 (by decide) (fun c75 => ?_) (fun c75 => ?_)
            · have H76 := H74.1 c75
              refine V.lload dX9_findLine_138 rfl ?_
              refine V.lconst (v := 1) dX9_findLine_140 (by decide) ?_
              refine V.ladd dX9_findLine_141 ?_
              refine V.topl (fun y77 e78 => ?_)
              have H79 := H76 y77 e78
              refine V.lstore (lo' := [(7, .long y77), (9, .int (1 : Int32)), (0, .ref a0), (1, .long x1), (3, .long x3), (5, .long x5)]) dX9_findLine_142 (by decide) rfl ?_
              refine V.goto (tgt := 64) dX9_findLine_144 (by decide) ?_
              exact V.los [2, 3, 4, 5, 0] rfl H79
            · have H80 := H74.2 c75
              refine V.iconst (v := (1)) dX9_findLine_136 (by decide) ?_
              exact V.ret (v := some (.int (1 : Int32))) rfl (Or.inl ⟨_, rfl, dX9_findLine_137, _, rfl, (by decide)⟩) ⟨Nat.le_refl _, Nat.le_refl _⟩ H80
set_option maxRecDepth 100000 in
set_option maxHeartbeats 4000000 in
theorem wp_X9_findLine {S : List mjD} {RET : Option Value → mjH → Prop} {m : Nat} (hm : is_Model S m) {I : Nat → Nat → Int32} {L : Nat → Nat → Int64} (H0 : (((1 : Int32) ≤ (I m 24) → ((¬ (L (m + 14) (0 : Int32).toNatClampNeg) = (0 : Int64) → (vp_in (I m 24) 6) ∧ ∃ r7 I8 L9, CTl mr_X9_above [.long (L (m + 14) (I m 24).toNatClampNeg)] S I L r7 I8 L9 ∧ ∃ r12 I13 L14, CTl mr_X9_above [.long (L9 (m + 14) (0 : Int32).toNatClampNeg)] S I8 L9 r12 I13 L14 ∧ hd_X9_findLine_54 S RET m r7 r12 (1 : Int64) I13 L14) ∧ ((L (m + 14) (0 : Int32).toNatClampNeg) = (0 : Int64) → ∃ r18 I19 L20, CTi mr_X9_triesLine [.ref m, .long (1 : Int64), .long (0 : Int64)] S I L r18 I19 L20 ∧ (r18 = 0 ∨ r18 = 1) ∧ RET (some (.int r18)) (S, I19, L20)))) ∧ (¬ (1 : Int32) ≤ (I m 24) → RET (some (.int (0 : Int32))) (S, I, L)))) : CT mr_X9_findLine (0, 0) [.ref m] (S, I, L) RET := by
  refine CT.of (lo := [(0, .ref m)]) (by decide) (fun _ _ => Nat.le_of_ble_eq_true rfl) (fun _ _ => rfl) rfl ?_
  refine V.aload_n dX9_findLine_0 rfl rfl ?_
  refine V.getf (v := .int (I m 24)) dX9_findLine_1 fl_X9_185 hm.1 (by decide) rfl ?_
  refine V.iconst (v := (1)) dX9_findLine_4 (by decide) ?_
  refine V.icmp_ge (tgt := 10) dX9_findLine_5 (by decide) (fun c1 => ?_) (fun c1 => ?_)
  · have H2 := H0.1 c1
    refine V.aload_n dX9_findLine_10 rfl rfl ?_
    refine V.getf (v := .ref (m + 14)) dX9_findLine_11 fl_X9_51 hm.1 (by decide) rfl ?_
    refine V.iconst (v := (0)) dX9_findLine_14 (by decide) ?_
    refine V.lald dX9_findLine_15 hm.2.2.2.2.2.2.2.2.2.2.2.2.2.2.1 (mj_lit (by decide)) ?_
    refine V.lconst (v := 0) dX9_findLine_16 (by decide) ?_
    refine V.lc_ne (tgt := 28) dX9_findLine_17 dX9_findLine_18 (by decide) (fun c3 => ?_) (fun c3 => ?_)
    · have H4 := H2.1 c3
      refine V.aload_n dX9_findLine_28 rfl rfl ?_
      refine V.getf (v := .ref (m + 14)) dX9_findLine_29 fl_X9_51 hm.1 (by decide) rfl ?_
      refine V.aload_n dX9_findLine_32 rfl rfl ?_
      refine V.getf (v := .int (I m 24)) dX9_findLine_33 fl_X9_185 hm.1 (by decide) rfl ?_
      obtain ⟨o5, H6⟩ := H4
      refine V.lald dX9_findLine_36 hm.2.2.2.2.2.2.2.2.2.2.2.2.2.2.1 o5 ?_
      obtain ⟨r7, I8, L9, t10, H11⟩ := H6
      refine V.cSl (N := mr_X9_above) (as := [.long (L (m + 14) (I m 24).toNatClampNeg)]) dX9_findLine_37 ml_X9_108 ok_X9_above okS_X9_above ⟨Nat.le_of_ble_eq_true rfl, Nat.le_of_ble_eq_true rfl⟩ rfl rfl (Nat.le_of_ble_eq_true rfl) t10 ?_
      refine V.lstore_n (lo' := [(1, .long r7), (0, .ref m)]) dX9_findLine_40 rfl (by decide) rfl ?_
      refine V.aload_n dX9_findLine_41 rfl rfl ?_
      refine V.getf (v := .ref (m + 14)) dX9_findLine_42 fl_X9_51 hm.1 (by decide) rfl ?_
      refine V.iconst (v := (0)) dX9_findLine_45 (by decide) ?_
      refine V.lald dX9_findLine_46 hm.2.2.2.2.2.2.2.2.2.2.2.2.2.2.1 (mj_lit (by decide)) ?_
      obtain ⟨r12, I13, L14, t15, H16⟩ := H11
      refine V.cSl (N := mr_X9_above) (as := [.long (L9 (m + 14) (0 : Int32).toNatClampNeg)]) dX9_findLine_47 ml_X9_108 ok_X9_above okS_X9_above ⟨Nat.le_of_ble_eq_true rfl, Nat.le_of_ble_eq_true rfl⟩ rfl rfl (Nat.le_of_ble_eq_true rfl) t15 ?_
      refine V.lstore_n (lo' := [(3, .long r12), (1, .long r7), (0, .ref m)]) dX9_findLine_50 rfl (by decide) rfl ?_
      refine V.lconst (v := 1) dX9_findLine_51 (by decide) ?_
      refine V.lstore (lo' := [(5, .long (1 : Int64)), (3, .long r12), (1, .long r7), (0, .ref m)]) dX9_findLine_52 (by decide) rfl ?_
      exact V.los [3, 2, 1, 0] rfl H16
    · have H17 := H2.2 c3
      refine V.aload_n dX9_findLine_21 rfl rfl ?_
      refine V.lconst (v := 1) dX9_findLine_22 (by decide) ?_
      refine V.lconst (v := 0) dX9_findLine_23 (by decide) ?_
      obtain ⟨r18, I19, L20, t21, H22⟩ := H17
      refine V.cVi (N := mr_X9_triesLine) (as := [.long (1 : Int64), .long (0 : Int64)]) dX9_findLine_24 ml_X9_210 ok_X9_triesLine okV_X9_triesLine ⟨Nat.le_of_ble_eq_true rfl, Nat.le_of_ble_eq_true rfl⟩ hm.1 rfl rfl rfl (Nat.le_of_ble_eq_true rfl) t21 ?_
      obtain ⟨o23, H24⟩ := H22
      exact V.ret (v := some (.int r18)) rfl (Or.inl ⟨_, rfl, dX9_findLine_27, _, rfl, (mj_zn o23)⟩) ⟨Nat.le_refl _, Nat.le_refl _⟩ H24
  · have H25 := H0.2 c1
    refine V.iconst (v := (0)) dX9_findLine_8 (by decide) ?_
    exact V.ret (v := some (.int (0 : Int32))) rfl (Or.inl ⟨_, rfl, dX9_findLine_9, _, rfl, (by decide)⟩) ⟨Nat.le_refl _, Nat.le_refl _⟩ H25
set_option maxRecDepth 100000 in
set_option maxHeartbeats 4000000 in
theorem wp_X9_partsNow {S : List mjD} {RET : Option Value → mjH → Prop} {m : Nat} (hm : is_Model S m) {a : Int32} {b : Int32} {c : Int32} {I : Nat → Nat → Int32} {L : Nat → Nat → Int64} (H0 : ∃ r1 I2 L3, CTi mr_X9_layParts [.ref m, .int a, .int b] S I L r1 I2 L3 ∧ ((¬ r1 = 0 → ((¬ c = 0 → RET (some (.int (I2 m 45))) (S, I2, L3)) ∧ (c = 0 → RET (some (.int (I2 m 46))) (S, I2, L3)))) ∧ (r1 = 0 → RET (some (.int (-1 : Int32))) (S, I2, L3)))) : CT mr_X9_partsNow (0, 0) [.ref m, .int a, .int b, .int c] (S, I, L) RET := by
  refine CT.of (lo := [(0, .ref m), (1, .int a), (2, .int b), (3, .int c)]) (by decide) (fun _ _ => Nat.le_of_ble_eq_true rfl) (fun _ _ => rfl) rfl ?_
  refine V.aload_n dX9_partsNow_0 rfl rfl ?_
  refine V.iload_n dX9_partsNow_1 rfl rfl ?_
  refine V.iload_n dX9_partsNow_2 rfl rfl ?_
  obtain ⟨r1, I2, L3, t4, H5⟩ := H0
  refine V.cVi (N := mr_X9_layParts) (as := [.int a, .int b]) dX9_partsNow_3 ml_X9_382 ok_X9_layParts okV_X9_layParts ⟨Nat.le_of_ble_eq_true rfl, Nat.le_of_ble_eq_true rfl⟩ hm.1 rfl rfl rfl (Nat.le_of_ble_eq_true rfl) t4 ?_
  refine V.if_ne (tgt := 13) dX9_partsNow_6 (by decide) (fun c6 => ?_) (fun c6 => ?_)
  · have H7 := H5.1 c6
    refine V.iload_n dX9_partsNow_13 rfl rfl ?_
    refine V.if_ne (tgt := 24) dX9_partsNow_14 (by decide) (fun c8 => ?_) (fun c8 => ?_)
    · have H9 := H7.1 c8
      refine V.aload_n dX9_partsNow_24 rfl rfl ?_
      refine V.getf (v := .int (I2 m 45)) dX9_partsNow_25 fl_X9_376 hm.1 (by decide) rfl ?_
      exact V.ret (v := some (.int (I2 m 45))) rfl (Or.inl ⟨_, rfl, dX9_partsNow_28, _, rfl, rfl⟩) ⟨Nat.le_refl _, Nat.le_refl _⟩ H9
    · have H10 := H7.2 c8
      refine V.aload_n dX9_partsNow_17 rfl rfl ?_
      refine V.getf (v := .int (I2 m 46)) dX9_partsNow_18 fl_X9_373 hm.1 (by decide) rfl ?_
      refine V.goto (tgt := 28) dX9_partsNow_21 (by decide) ?_
      exact V.ret (v := some (.int (I2 m 46))) rfl (Or.inl ⟨_, rfl, dX9_partsNow_28, _, rfl, rfl⟩) ⟨Nat.le_refl _, Nat.le_refl _⟩ H10
  · have H11 := H5.2 c6
    refine V.iconst (v := (-1)) dX9_partsNow_9 (by decide) ?_
    refine V.goto (tgt := 28) dX9_partsNow_10 (by decide) ?_
    exact V.ret (v := some (.int (-1 : Int32))) rfl (Or.inl ⟨_, rfl, dX9_partsNow_28, _, rfl, rfl⟩) ⟨Nat.le_refl _, Nat.le_refl _⟩ H11
def hd_X9_degreesNow_13 (S : List mjD) (RET : Option Value → mjH → Prop) (a0 : Nat) (x1 : Int32) (x2 : Int32) (x3 : Int32) (I : Nat → Nat → Int32) (L : Nat → Nat → Int64) : Prop := V mr_X9_degreesNow (0, 0) RET 13 [(0, .ref a0), (1, .int x1), (2, .int x2), (3, .int x3)] [] (S, I, L) (0, 0)
def hd_X9_degreesNow_44 (S : List mjD) (RET : Option Value → mjH → Prop) (a0 : Nat) (x1 : Int32) (x2 : Int32) (x3 : Int32) (x4 : Int32) (x5 : Int32) (I : Nat → Nat → Int32) (L : Nat → Nat → Int64) : Prop := V mr_X9_degreesNow (0, 0) RET 44 [(0, .ref a0), (1, .int x1), (2, .int x2), (3, .int x3), (4, .int x4), (5, .int x5)] [] (S, I, L) (0, 0)
set_option maxRecDepth 100000 in
set_option maxHeartbeats 4000000 in
theorem it_X9_degreesNow_13 {S : List mjD} {RET : Option Value → mjH → Prop} {a0 : Nat} (h0 : is_Model S a0) {x1 : Int32} {x2 : Int32} {x3 : Int32} {I : Nat → Nat → Int32} {L : Nat → Nat → Int64} (H0 : (((14 : Int32) ≤ x3 → RET (some (.int x2)) (S, I, L)) ∧ (¬ (14 : Int32) ≤ x3 → ∃ r9 I10 L11, CTi mr_X9_isPrime [.int x3] S I L r9 I10 L11 ∧ ((r9 = 0 → ∀ y16 : Int32, y16 = x3 + 1 → hd_X9_degreesNow_13 S RET a0 x1 x2 y16 I10 L11) ∧ (¬ r9 = 0 → ∃ r20 I21 L22, CTi mr_X9_layParts [.ref a0, .int x1, .int x3] S I10 L11 r20 I21 L22 ∧ ((r20 = 0 → ∀ y27 : Int32, y27 = x3 + 1 → hd_X9_degreesNow_13 S RET a0 x1 x2 y27 I21 L22) ∧ (¬ r20 = 0 → ∀ y31 : Int32, y31 = (I21 a0 45) → hd_X9_degreesNow_44 S RET a0 x1 x2 x3 (1 : Int32) y31 I21 L22))))))) : hd_X9_degreesNow_13 S RET a0 x1 x2 x3 I L := by
  unfold hd_X9_degreesNow_13
  refine V.iload_n dX9_degreesNow_13 rfl rfl ?_
  refine V.bipush (v := (14)) dX9_degreesNow_14 (by decide) ?_
  refine V.icmp_ge (tgt := 83) dX9_degreesNow_16 (by decide) (fun c6 => ?_) (fun c6 => ?_)
  · have H7 := H0.1 c6
    refine V.iload_n dX9_degreesNow_83 rfl rfl ?_
    exact V.ret (v := some (.int x2)) rfl (Or.inl ⟨_, rfl, dX9_degreesNow_84, _, rfl, rfl⟩) ⟨Nat.le_refl _, Nat.le_refl _⟩ H7
  · have H8 := H0.2 c6
    refine V.iload_n dX9_degreesNow_19 rfl rfl ?_
    obtain ⟨r9, I10, L11, t12, H13⟩ := H8
    refine V.cSi (N := mr_X9_isPrime) (as := [.int x3]) dX9_degreesNow_20 ml_X9_386 ok_X9_isPrime okS_X9_isPrime ⟨Nat.le_of_ble_eq_true rfl, Nat.le_of_ble_eq_true rfl⟩ rfl rfl (Nat.le_of_ble_eq_true rfl) t12 ?_
    refine V.if_eq (tgt := 77) dX9_degreesNow_23 (by decide) (fun c14 => ?_) (fun c14 => ?_)
    · have H15 := H13.1 c14
      obtain ⟨y16, e17⟩ : ∃ y : Int32, y = x3 + 1 := ⟨_, rfl⟩
      have H18 := H15 y16 e17
      refine V.iinc (v := y16) (lo' := [(3, .int y16), (0, .ref a0), (1, .int x1), (2, .int x2)]) dX9_degreesNow_77 rfl (by rw [e17]; rfl) (by decide) rfl ?_
      refine V.goto (tgt := 13) dX9_degreesNow_80 (by decide) ?_
      exact V.los [1, 2, 3, 0] rfl H18
    · have H19 := H13.2 c14
      refine V.aload_n dX9_degreesNow_26 rfl rfl ?_
      refine V.iload_n dX9_degreesNow_27 rfl rfl ?_
      refine V.iload_n dX9_degreesNow_28 rfl rfl ?_
      obtain ⟨r20, I21, L22, t23, H24⟩ := H19
      refine V.cVi (N := mr_X9_layParts) (as := [.int x1, .int x3]) dX9_degreesNow_29 ml_X9_382 ok_X9_layParts okV_X9_layParts ⟨Nat.le_of_ble_eq_true rfl, Nat.le_of_ble_eq_true rfl⟩ h0.1 rfl rfl rfl (Nat.le_of_ble_eq_true rfl) t23 ?_
      refine V.if_eq (tgt := 77) dX9_degreesNow_32 (by decide) (fun c25 => ?_) (fun c25 => ?_)
      · have H26 := H24.1 c25
        obtain ⟨y27, e28⟩ : ∃ y : Int32, y = x3 + 1 := ⟨_, rfl⟩
        have H29 := H26 y27 e28
        refine V.iinc (v := y27) (lo' := [(3, .int y27), (0, .ref a0), (1, .int x1), (2, .int x2)]) dX9_degreesNow_77 rfl (by rw [e28]; rfl) (by decide) rfl ?_
        refine V.goto (tgt := 13) dX9_degreesNow_80 (by decide) ?_
        exact V.los [1, 2, 3, 0] rfl H29
      · have H30 := H24.2 c25
        refine V.iconst (v := (1)) dX9_degreesNow_35 (by decide) ?_
        refine V.istore (lo' := [(4, .int (1 : Int32)), (0, .ref a0), (1, .int x1), (2, .int x2), (3, .int x3)]) dX9_degreesNow_36 (by decide) rfl ?_
        refine V.aload_n dX9_degreesNow_38 rfl rfl ?_
        refine V.getf (v := .int (I21 a0 45)) dX9_degreesNow_39 fl_X9_376 h0.1 (by decide) rfl ?_
        refine V.topi (fun y31 e32 => ?_)
        have H33 := H30 y31 e32
        refine V.istore (lo' := [(5, .int y31), (4, .int (1 : Int32)), (0, .ref a0), (1, .int x1), (2, .int x2), (3, .int x3)]) dX9_degreesNow_42 (by decide) rfl ?_
        exact V.los [2, 3, 4, 5, 1, 0] rfl H33
set_option maxRecDepth 100000 in
set_option maxHeartbeats 4000000 in
theorem it_X9_degreesNow_44 {S : List mjD} {RET : Option Value → mjH → Prop} {a0 : Nat} (h0 : is_Model S a0) {x1 : Int32} {x2 : Int32} {x3 : Int32} {x4 : Int32} {x5 : Int32} {I : Nat → Nat → Int32} {L : Nat → Nat → Int64} (H0 : ((x5 ≤ 0 → ∀ y36 : Int32, y36 = (x2 &&& x4) → ∀ y39 : Int32, y39 = x3 + 1 → hd_X9_degreesNow_13 S RET a0 x1 y36 y39 I L) ∧ (¬ x5 ≤ 0 → ∀ y43 : Int32, y43 = (x4 ||| (x4 <<< ((x5 - x5 / (10 : Int32) * (10 : Int32)) &&& 31))) → ∀ y46 : Int32, y46 = (x5 / (10 : Int32)) → hd_X9_degreesNow_44 S RET a0 x1 x2 x3 y43 y46 I L))) : hd_X9_degreesNow_44 S RET a0 x1 x2 x3 x4 x5 I L := by
  unfold hd_X9_degreesNow_44
  refine V.iload dX9_degreesNow_44 rfl ?_
  refine V.if_le (tgt := 72) dX9_degreesNow_46 (by decide) (fun c34 => ?_) (fun c34 => ?_)
  · have H35 := H0.1 c34
    refine V.iload_n dX9_degreesNow_72 rfl rfl ?_
    refine V.iload dX9_degreesNow_73 rfl ?_
    refine V.iand dX9_degreesNow_75 ?_
    refine V.topi (fun y36 e37 => ?_)
    have H38 := H35 y36 e37
    refine V.istore_n (lo' := [(2, .int y36), (0, .ref a0), (1, .int x1), (3, .int x3), (4, .int x4), (5, .int x5)]) dX9_degreesNow_76 rfl (by decide) rfl ?_
    obtain ⟨y39, e40⟩ : ∃ y : Int32, y = x3 + 1 := ⟨_, rfl⟩
    have H41 := H38 y39 e40
    refine V.iinc (v := y39) (lo' := [(3, .int y39), (2, .int y36), (0, .ref a0), (1, .int x1), (4, .int x4), (5, .int x5)]) dX9_degreesNow_77 rfl (by rw [e40]; rfl) (by decide) rfl ?_
    refine V.goto (tgt := 13) dX9_degreesNow_80 (by decide) ?_
    exact V.los [2, 3, 1, 0] rfl H41
  · have H42 := H0.2 c34
    refine V.iload dX9_degreesNow_49 rfl ?_
    refine V.iload dX9_degreesNow_51 rfl ?_
    refine V.iload dX9_degreesNow_53 rfl ?_
    refine V.bipush (v := (10)) dX9_degreesNow_55 (by decide) ?_
    refine V.irem dX9_degreesNow_57 (by decide) ?_
    refine V.ishl dX9_degreesNow_58 ?_
    refine V.ior dX9_degreesNow_59 ?_
    refine V.topi (fun y43 e44 => ?_)
    have H45 := H42 y43 e44
    refine V.istore (lo' := [(4, .int y43), (0, .ref a0), (1, .int x1), (2, .int x2), (3, .int x3), (5, .int x5)]) dX9_degreesNow_60 (by decide) rfl ?_
    refine V.iload dX9_degreesNow_62 rfl ?_
    refine V.bipush (v := (10)) dX9_degreesNow_64 (by decide) ?_
    refine V.idiv dX9_degreesNow_66 (by decide) ?_
    refine V.topi (fun y46 e47 => ?_)
    have H48 := H45 y46 e47
    refine V.istore (lo' := [(5, .int y46), (4, .int y43), (0, .ref a0), (1, .int x1), (2, .int x2), (3, .int x3)]) dX9_degreesNow_67 (by decide) rfl ?_
    refine V.goto (tgt := 44) dX9_degreesNow_69 (by decide) ?_
    exact V.los [2, 3, 4, 5, 1, 0] rfl H48
set_option maxRecDepth 100000 in
set_option maxHeartbeats 4000000 in
theorem wp_X9_degreesNow {S : List mjD} {RET : Option Value → mjH → Prop} {m : Nat} (hm : is_Model S m) {a : Int32} {I : Nat → Nat → Int32} {L : Nat → Nat → Int64} (H0 : (vp_in a 4) ∧ ∀ y3 : Int32, y3 = (((2 : Int32) <<< ((I (m + 3) a.toNatClampNeg) &&& 31)) - (1 : Int32)) → hd_X9_degreesNow_13 S RET m a y3 (2 : Int32) I L) : CT mr_X9_degreesNow (0, 0) [.ref m, .int a] (S, I, L) RET := by
  refine CT.of (lo := [(0, .ref m), (1, .int a)]) (by decide) (fun _ _ => Nat.le_of_ble_eq_true rfl) (fun _ _ => rfl) rfl ?_
  refine V.iconst (v := (2)) dX9_degreesNow_0 (by decide) ?_
  refine V.aload_n dX9_degreesNow_1 rfl rfl ?_
  refine V.getf (v := .ref (m + 3)) dX9_degreesNow_2 fl_X9_17 hm.1 (by decide) rfl ?_
  refine V.iload_n dX9_degreesNow_5 rfl rfl ?_
  obtain ⟨o1, H2⟩ := H0
  refine V.iald dX9_degreesNow_6 hm.2.2.2.1 o1 ?_
  refine V.ishl dX9_degreesNow_7 ?_
  refine V.iconst (v := (1)) dX9_degreesNow_8 (by decide) ?_
  refine V.isub dX9_degreesNow_9 ?_
  refine V.topi (fun y3 e4 => ?_)
  have H5 := H2 y3 e4
  refine V.istore_n (lo' := [(2, .int y3), (0, .ref m), (1, .int a)]) dX9_degreesNow_10 rfl (by decide) rfl ?_
  refine V.iconst (v := (2)) dX9_degreesNow_11 (by decide) ?_
  refine V.istore_n (lo' := [(3, .int (2 : Int32)), (2, .int y3), (0, .ref m), (1, .int a)]) dX9_degreesNow_12 rfl (by decide) rfl ?_
  exact V.los [2, 3, 1, 0] rfl H5
def hd_X9_readText_18 (S : List mjD) (RET : Option Value → mjH → Prop) (a0 : Nat) (x1 : Int32) (I : Nat → Nat → Int32) (L : Nat → Nat → Int64) : Prop := V mr_X9_readText (0, 0) RET 18 [(0, .ref a0), (1, .int x1)] [] (S, I, L) (0, 0)
def hd_X9_readText_69 (S : List mjD) (RET : Option Value → mjH → Prop) (a0 : Nat) (x1 : Int32) (I : Nat → Nat → Int32) (L : Nat → Nat → Int64) : Prop := V mr_X9_readText (0, 0) RET 69 [(0, .ref a0), (1, .int x1)] [] (S, I, L) (0, 0)
set_option maxRecDepth 100000 in
set_option maxHeartbeats 4000000 in
theorem it_X9_readText_18 {S : List mjD} {RET : Option Value → mjH → Prop} {a0 : Nat} (h0 : is_Model S a0) {x1 : Int32} {I : Nat → Nat → Int32} {L : Nat → Nat → Int64} (H0 : (((6 : Int32) ≤ x1 → ∃ r3 I4 L5, CTi mr_X9_at [.ref a0, .int (0 : Int32)] S I L r3 I4 L5 ∧ ((¬ r3 = (45 : Int32) → ∃ r10 I11 L12, CTi mr_X9_readTerm [.ref a0, .int (0 : Int32), .int (0 : Int32)] S I4 L5 r10 I11 L12 ∧ hd_X9_readText_69 S RET a0 r10 I11 L12) ∧ (r3 = (45 : Int32) → ∃ r16 I17 L18, CTi mr_X9_readTerm [.ref a0, .int (1 : Int32), .int (1 : Int32)] S I4 L5 r16 I17 L18 ∧ hd_X9_readText_69 S RET a0 r16 I17 L18))) ∧ (¬ (6 : Int32) ≤ x1 → (vp_in x1 6) ∧ ∀ y24 : Int32, y24 = x1 + 1 → hd_X9_readText_18 S RET a0 y24 I (mj_up L (a0 + 8) x1.toNatClampNeg (0 : Int64))))) : hd_X9_readText_18 S RET a0 x1 I L := by
  unfold hd_X9_readText_18
  refine V.iload_n dX9_readText_18 rfl rfl ?_
  refine V.bipush (v := (6)) dX9_readText_19 (by decide) ?_
  refine V.icmp_ge (tgt := 37) dX9_readText_21 (by decide) (fun c1 => ?_) (fun c1 => ?_)
  · have H2 := H0.1 c1
    refine V.aload_n dX9_readText_37 rfl rfl ?_
    refine V.iconst (v := (0)) dX9_readText_38 (by decide) ?_
    obtain ⟨r3, I4, L5, t6, H7⟩ := H2
    refine V.cVi (N := mr_X9_at) (as := [.int (0 : Int32)]) dX9_readText_39 ml_X9_124 ok_X9_at okV_X9_at ⟨Nat.le_of_ble_eq_true rfl, Nat.le_of_ble_eq_true rfl⟩ h0.1 rfl rfl rfl (Nat.le_of_ble_eq_true rfl) t6 ?_
    refine V.bipush (v := (45)) dX9_readText_42 (by decide) ?_
    refine V.icmp_ne (tgt := 51) dX9_readText_44 (by decide) (fun c8 => ?_) (fun c8 => ?_)
    · have H9 := H7.1 c8
      refine V.iconst (v := (0)) dX9_readText_51 (by decide) ?_
      refine V.istore_n (lo' := [(1, .int (0 : Int32)), (0, .ref a0)]) dX9_readText_52 rfl (by decide) rfl ?_
      refine V.aload_n dX9_readText_53 rfl rfl ?_
      refine V.iload_n dX9_readText_54 rfl rfl ?_
      refine V.iload_n dX9_readText_55 rfl rfl ?_
      refine V.iconst (v := (1)) dX9_readText_56 (by decide) ?_
      refine V.icmp_ne (tgt := 64) dX9_readText_57 (by decide) (fun _ => ?_) (fun c => absurd c (by decide))
      refine V.iconst (v := (0)) dX9_readText_64 (by decide) ?_
      obtain ⟨r10, I11, L12, t13, H14⟩ := H9
      refine V.cVi (N := mr_X9_readTerm) (as := [.int (0 : Int32), .int (0 : Int32)]) dX9_readText_65 ml_X9_155 ok_X9_readTerm okV_X9_readTerm ⟨Nat.le_of_ble_eq_true rfl, Nat.le_of_ble_eq_true rfl⟩ h0.1 rfl rfl rfl (Nat.le_of_ble_eq_true rfl) t13 ?_
      refine V.istore_n (lo' := [(1, .int r10), (0, .ref a0)]) dX9_readText_68 rfl (by decide) rfl ?_
      exact V.los [1, 0] rfl H14
    · have H15 := H7.2 c8
      refine V.iconst (v := (1)) dX9_readText_47 (by decide) ?_
      refine V.goto (tgt := 52) dX9_readText_48 (by decide) ?_
      refine V.istore_n (lo' := [(1, .int (1 : Int32)), (0, .ref a0)]) dX9_readText_52 rfl (by decide) rfl ?_
      refine V.aload_n dX9_readText_53 rfl rfl ?_
      refine V.iload_n dX9_readText_54 rfl rfl ?_
      refine V.iload_n dX9_readText_55 rfl rfl ?_
      refine V.iconst (v := (1)) dX9_readText_56 (by decide) ?_
      refine V.icmp_ne (tgt := 64) dX9_readText_57 (by decide) (fun c => absurd c (by decide)) (fun _ => ?_)
      refine V.iconst (v := (1)) dX9_readText_60 (by decide) ?_
      refine V.goto (tgt := 65) dX9_readText_61 (by decide) ?_
      obtain ⟨r16, I17, L18, t19, H20⟩ := H15
      refine V.cVi (N := mr_X9_readTerm) (as := [.int (1 : Int32), .int (1 : Int32)]) dX9_readText_65 ml_X9_155 ok_X9_readTerm okV_X9_readTerm ⟨Nat.le_of_ble_eq_true rfl, Nat.le_of_ble_eq_true rfl⟩ h0.1 rfl rfl rfl (Nat.le_of_ble_eq_true rfl) t19 ?_
      refine V.istore_n (lo' := [(1, .int r16), (0, .ref a0)]) dX9_readText_68 rfl (by decide) rfl ?_
      exact V.los [1, 0] rfl H20
  · have H21 := H0.2 c1
    refine V.aload_n dX9_readText_24 rfl rfl ?_
    refine V.getf (v := .ref (a0 + 8)) dX9_readText_25 fl_X9_33 h0.1 (by decide) rfl ?_
    refine V.iload_n dX9_readText_28 rfl rfl ?_
    refine V.lconst (v := 0) dX9_readText_29 (by decide) ?_
    obtain ⟨o22, H23⟩ := H21
    refine V.last dX9_readText_30 h0.2.2.2.2.2.2.2.2.1 o22 ?_
    obtain ⟨y24, e25⟩ : ∃ y : Int32, y = x1 + 1 := ⟨_, rfl⟩
    have H26 := H23 y24 e25
    refine V.iinc (v := y24) (lo' := [(1, .int y24), (0, .ref a0)]) dX9_readText_31 rfl (by rw [e25]; rfl) (by decide) rfl ?_
    refine V.goto (tgt := 18) dX9_readText_34 (by decide) ?_
    exact V.los [1, 0] rfl H26
set_option maxRecDepth 100000 in
set_option maxHeartbeats 4000000 in
theorem it_X9_readText_69 {S : List mjD} {RET : Option Value → mjH → Prop} {a0 : Nat} (h0 : is_Model S a0) {x1 : Int32} {I : Nat → Nat → Int32} {L : Nat → Nat → Int64} (H0 : ((¬ (I a0 12) = 0 → ((¬ (I a0 12) = 0 → RET (some (.int x1)) (S, mj_up I a0 11 (0 : Int32), L)) ∧ ((I a0 12) = 0 → ((¬ x1 = (I a0 9) → RET (some (.int x1)) (S, mj_up I a0 11 (0 : Int32), L)) ∧ (x1 = (I a0 9) → RET (some (.int x1)) (S, mj_up I a0 11 (1 : Int32), L)))))) ∧ ((I a0 12) = 0 → (((I a0 13) ≤ 0 → ((¬ (I a0 12) = 0 → RET (some (.int x1)) (S, mj_up I a0 11 (0 : Int32), L)) ∧ ((I a0 12) = 0 → ((¬ x1 = (I a0 9) → RET (some (.int x1)) (S, mj_up I a0 11 (0 : Int32), L)) ∧ (x1 = (I a0 9) → RET (some (.int x1)) (S, mj_up I a0 11 (1 : Int32), L)))))) ∧ (¬ (I a0 13) ≤ 0 → ∃ r45 I46 L47, CTi mr_X9_at [.ref a0, .int x1] S I L r45 I46 L47 ∧ ((r45 = (43 : Int32) → ∃ r52 I53 L54, CTi mr_X9_at [.ref a0, .int x1] S I46 L47 r52 I53 L54 ∧ ((¬ r52 = (45 : Int32) → ∃ r59 I60 L61, CTi mr_X9_readTerm [.ref a0, .int (x1 + (1 : Int32)), .int (0 : Int32)] S I53 L54 r59 I60 L61 ∧ hd_X9_readText_69 S RET a0 r59 I60 L61) ∧ (r52 = (45 : Int32) → ∃ r65 I66 L67, CTi mr_X9_readTerm [.ref a0, .int (x1 + (1 : Int32)), .int (1 : Int32)] S I53 L54 r65 I66 L67 ∧ hd_X9_readText_69 S RET a0 r65 I66 L67))) ∧ (¬ r45 = (43 : Int32) → ∃ r71 I72 L73, CTi mr_X9_at [.ref a0, .int x1] S I46 L47 r71 I72 L73 ∧ ((¬ r71 = (45 : Int32) → ((¬ (I72 a0 12) = 0 → RET (some (.int x1)) (S, mj_up I72 a0 11 (0 : Int32), L73)) ∧ ((I72 a0 12) = 0 → ((¬ x1 = (I72 a0 9) → RET (some (.int x1)) (S, mj_up I72 a0 11 (0 : Int32), L73)) ∧ (x1 = (I72 a0 9) → RET (some (.int x1)) (S, mj_up I72 a0 11 (1 : Int32), L73)))))) ∧ (r71 = (45 : Int32) → ∃ r85 I86 L87, CTi mr_X9_at [.ref a0, .int x1] S I72 L73 r85 I86 L87 ∧ ((¬ r85 = (45 : Int32) → ∃ r92 I93 L94, CTi mr_X9_readTerm [.ref a0, .int (x1 + (1 : Int32)), .int (0 : Int32)] S I86 L87 r92 I93 L94 ∧ hd_X9_readText_69 S RET a0 r92 I93 L94) ∧ (r85 = (45 : Int32) → ∃ r98 I99 L100, CTi mr_X9_readTerm [.ref a0, .int (x1 + (1 : Int32)), .int (1 : Int32)] S I86 L87 r98 I99 L100 ∧ hd_X9_readText_69 S RET a0 r98 I99 L100))))))))))) : hd_X9_readText_69 S RET a0 x1 I L := by
  unfold hd_X9_readText_69
  refine V.aload_n dX9_readText_69 rfl rfl ?_
  refine V.getf (v := .int (I a0 12)) dX9_readText_70 fl_X9_128 h0.1 (by decide) rfl ?_
  refine V.if_ne (tgt := 129) dX9_readText_73 (by decide) (fun c27 => ?_) (fun c27 => ?_)
  · have H28 := H0.1 c27
    refine V.aload_n dX9_readText_129 rfl rfl ?_
    refine V.aload_n dX9_readText_130 rfl rfl ?_
    refine V.getf (v := .int (I a0 12)) dX9_readText_131 fl_X9_128 h0.1 (by decide) rfl ?_
    refine V.if_ne (tgt := 149) dX9_readText_134 (by decide) (fun c29 => ?_) (fun c29 => ?_)
    · have H30 := H28.1 c29
      refine V.iconst (v := (0)) dX9_readText_149 (by decide) ?_
      refine V.puti dX9_readText_150 fl_X9_152 fp_X9_152 (Or.inr rfl) h0.1 (by decide) (by decide) (by decide) ?_
      refine V.iload_n dX9_readText_153 rfl rfl ?_
      exact V.ret (v := some (.int x1)) rfl (Or.inl ⟨_, rfl, dX9_readText_154, _, rfl, rfl⟩) ⟨Nat.le_refl _, Nat.le_refl _⟩ H30
    · have H31 := H28.2 c29
      refine V.iload_n dX9_readText_137 rfl rfl ?_
      refine V.aload_n dX9_readText_138 rfl rfl ?_
      refine V.getf (v := .int (I a0 9)) dX9_readText_139 fl_X9_120 h0.1 (by decide) rfl ?_
      refine V.icmp_ne (tgt := 149) dX9_readText_142 (by decide) (fun c32 => ?_) (fun c32 => ?_)
      · have H33 := H31.1 c32
        refine V.iconst (v := (0)) dX9_readText_149 (by decide) ?_
        refine V.puti dX9_readText_150 fl_X9_152 fp_X9_152 (Or.inr rfl) h0.1 (by decide) (by decide) (by decide) ?_
        refine V.iload_n dX9_readText_153 rfl rfl ?_
        exact V.ret (v := some (.int x1)) rfl (Or.inl ⟨_, rfl, dX9_readText_154, _, rfl, rfl⟩) ⟨Nat.le_refl _, Nat.le_refl _⟩ H33
      · have H34 := H31.2 c32
        refine V.iconst (v := (1)) dX9_readText_145 (by decide) ?_
        refine V.goto (tgt := 150) dX9_readText_146 (by decide) ?_
        refine V.puti dX9_readText_150 fl_X9_152 fp_X9_152 (Or.inr rfl) h0.1 (by decide) (by decide) (by decide) ?_
        refine V.iload_n dX9_readText_153 rfl rfl ?_
        exact V.ret (v := some (.int x1)) rfl (Or.inl ⟨_, rfl, dX9_readText_154, _, rfl, rfl⟩) ⟨Nat.le_refl _, Nat.le_refl _⟩ H34
  · have H35 := H0.2 c27
    refine V.aload_n dX9_readText_76 rfl rfl ?_
    refine V.getf (v := .int (I a0 13)) dX9_readText_77 fl_X9_132 h0.1 (by decide) rfl ?_
    refine V.if_le (tgt := 129) dX9_readText_80 (by decide) (fun c36 => ?_) (fun c36 => ?_)
    · have H37 := H35.1 c36
      refine V.aload_n dX9_readText_129 rfl rfl ?_
      refine V.aload_n dX9_readText_130 rfl rfl ?_
      refine V.getf (v := .int (I a0 12)) dX9_readText_131 fl_X9_128 h0.1 (by decide) rfl ?_
      refine V.if_ne (tgt := 149) dX9_readText_134 (by decide) (fun c38 => ?_) (fun c38 => ?_)
      · have H39 := H37.1 c38
        refine V.iconst (v := (0)) dX9_readText_149 (by decide) ?_
        refine V.puti dX9_readText_150 fl_X9_152 fp_X9_152 (Or.inr rfl) h0.1 (by decide) (by decide) (by decide) ?_
        refine V.iload_n dX9_readText_153 rfl rfl ?_
        exact V.ret (v := some (.int x1)) rfl (Or.inl ⟨_, rfl, dX9_readText_154, _, rfl, rfl⟩) ⟨Nat.le_refl _, Nat.le_refl _⟩ H39
      · have H40 := H37.2 c38
        refine V.iload_n dX9_readText_137 rfl rfl ?_
        refine V.aload_n dX9_readText_138 rfl rfl ?_
        refine V.getf (v := .int (I a0 9)) dX9_readText_139 fl_X9_120 h0.1 (by decide) rfl ?_
        refine V.icmp_ne (tgt := 149) dX9_readText_142 (by decide) (fun c41 => ?_) (fun c41 => ?_)
        · have H42 := H40.1 c41
          refine V.iconst (v := (0)) dX9_readText_149 (by decide) ?_
          refine V.puti dX9_readText_150 fl_X9_152 fp_X9_152 (Or.inr rfl) h0.1 (by decide) (by decide) (by decide) ?_
          refine V.iload_n dX9_readText_153 rfl rfl ?_
          exact V.ret (v := some (.int x1)) rfl (Or.inl ⟨_, rfl, dX9_readText_154, _, rfl, rfl⟩) ⟨Nat.le_refl _, Nat.le_refl _⟩ H42
        · have H43 := H40.2 c41
          refine V.iconst (v := (1)) dX9_readText_145 (by decide) ?_
          refine V.goto (tgt := 150) dX9_readText_146 (by decide) ?_
          refine V.puti dX9_readText_150 fl_X9_152 fp_X9_152 (Or.inr rfl) h0.1 (by decide) (by decide) (by decide) ?_
          refine V.iload_n dX9_readText_153 rfl rfl ?_
          exact V.ret (v := some (.int x1)) rfl (Or.inl ⟨_, rfl, dX9_readText_154, _, rfl, rfl⟩) ⟨Nat.le_refl _, Nat.le_refl _⟩ H43
    · have H44 := H35.2 c36
      refine V.aload_n dX9_readText_83 rfl rfl ?_
      refine V.iload_n dX9_readText_84 rfl rfl ?_
      obtain ⟨r45, I46, L47, t48, H49⟩ := H44
      refine V.cVi (N := mr_X9_at) (as := [.int x1]) dX9_readText_85 ml_X9_124 ok_X9_at okV_X9_at ⟨Nat.le_of_ble_eq_true rfl, Nat.le_of_ble_eq_true rfl⟩ h0.1 rfl rfl rfl (Nat.le_of_ble_eq_true rfl) t48 ?_
      refine V.bipush (v := (43)) dX9_readText_88 (by decide) ?_
      refine V.icmp_eq (tgt := 103) dX9_readText_90 (by decide) (fun c50 => ?_) (fun c50 => ?_)
      · have H51 := H49.1 c50
        refine V.aload_n dX9_readText_103 rfl rfl ?_
        refine V.iload_n dX9_readText_104 rfl rfl ?_
        refine V.iconst (v := (1)) dX9_readText_105 (by decide) ?_
        refine V.iadd dX9_readText_106 ?_
        refine V.aload_n dX9_readText_107 rfl rfl ?_
        refine V.iload_n dX9_readText_108 rfl rfl ?_
        obtain ⟨r52, I53, L54, t55, H56⟩ := H51
        refine V.cVi (N := mr_X9_at) (as := [.int x1]) dX9_readText_109 ml_X9_124 ok_X9_at okV_X9_at ⟨Nat.le_of_ble_eq_true rfl, Nat.le_of_ble_eq_true rfl⟩ h0.1 rfl rfl rfl (Nat.le_of_ble_eq_true rfl) t55 ?_
        refine V.bipush (v := (45)) dX9_readText_112 (by decide) ?_
        refine V.icmp_ne (tgt := 121) dX9_readText_114 (by decide) (fun c57 => ?_) (fun c57 => ?_)
        · have H58 := H56.1 c57
          refine V.iconst (v := (0)) dX9_readText_121 (by decide) ?_
          obtain ⟨r59, I60, L61, t62, H63⟩ := H58
          refine V.cVi (N := mr_X9_readTerm) (as := [.int (x1 + (1 : Int32)), .int (0 : Int32)]) dX9_readText_122 ml_X9_155 ok_X9_readTerm okV_X9_readTerm ⟨Nat.le_of_ble_eq_true rfl, Nat.le_of_ble_eq_true rfl⟩ h0.1 rfl rfl rfl (Nat.le_of_ble_eq_true rfl) t62 ?_
          refine V.istore_n (lo' := [(1, .int r59), (0, .ref a0)]) dX9_readText_125 rfl (by decide) rfl ?_
          refine V.goto (tgt := 69) dX9_readText_126 (by decide) ?_
          exact V.los [1, 0] rfl H63
        · have H64 := H56.2 c57
          refine V.iconst (v := (1)) dX9_readText_117 (by decide) ?_
          refine V.goto (tgt := 122) dX9_readText_118 (by decide) ?_
          obtain ⟨r65, I66, L67, t68, H69⟩ := H64
          refine V.cVi (N := mr_X9_readTerm) (as := [.int (x1 + (1 : Int32)), .int (1 : Int32)]) dX9_readText_122 ml_X9_155 ok_X9_readTerm okV_X9_readTerm ⟨Nat.le_of_ble_eq_true rfl, Nat.le_of_ble_eq_true rfl⟩ h0.1 rfl rfl rfl (Nat.le_of_ble_eq_true rfl) t68 ?_
          refine V.istore_n (lo' := [(1, .int r65), (0, .ref a0)]) dX9_readText_125 rfl (by decide) rfl ?_
          refine V.goto (tgt := 69) dX9_readText_126 (by decide) ?_
          exact V.los [1, 0] rfl H69
      · have H70 := H49.2 c50
        refine V.aload_n dX9_readText_93 rfl rfl ?_
        refine V.iload_n dX9_readText_94 rfl rfl ?_
        obtain ⟨r71, I72, L73, t74, H75⟩ := H70
        refine V.cVi (N := mr_X9_at) (as := [.int x1]) dX9_readText_95 ml_X9_124 ok_X9_at okV_X9_at ⟨Nat.le_of_ble_eq_true rfl, Nat.le_of_ble_eq_true rfl⟩ h0.1 rfl rfl rfl (Nat.le_of_ble_eq_true rfl) t74 ?_
        refine V.bipush (v := (45)) dX9_readText_98 (by decide) ?_
        refine V.icmp_ne (tgt := 129) dX9_readText_100 (by decide) (fun c76 => ?_) (fun c76 => ?_)
        · have H77 := H75.1 c76
          refine V.aload_n dX9_readText_129 rfl rfl ?_
          refine V.aload_n dX9_readText_130 rfl rfl ?_
          refine V.getf (v := .int (I72 a0 12)) dX9_readText_131 fl_X9_128 h0.1 (by decide) rfl ?_
          refine V.if_ne (tgt := 149) dX9_readText_134 (by decide) (fun c78 => ?_) (fun c78 => ?_)
          · have H79 := H77.1 c78
            refine V.iconst (v := (0)) dX9_readText_149 (by decide) ?_
            refine V.puti dX9_readText_150 fl_X9_152 fp_X9_152 (Or.inr rfl) h0.1 (by decide) (by decide) (by decide) ?_
            refine V.iload_n dX9_readText_153 rfl rfl ?_
            exact V.ret (v := some (.int x1)) rfl (Or.inl ⟨_, rfl, dX9_readText_154, _, rfl, rfl⟩) ⟨Nat.le_refl _, Nat.le_refl _⟩ H79
          · have H80 := H77.2 c78
            refine V.iload_n dX9_readText_137 rfl rfl ?_
            refine V.aload_n dX9_readText_138 rfl rfl ?_
            refine V.getf (v := .int (I72 a0 9)) dX9_readText_139 fl_X9_120 h0.1 (by decide) rfl ?_
            refine V.icmp_ne (tgt := 149) dX9_readText_142 (by decide) (fun c81 => ?_) (fun c81 => ?_)
            · have H82 := H80.1 c81
              refine V.iconst (v := (0)) dX9_readText_149 (by decide) ?_
              refine V.puti dX9_readText_150 fl_X9_152 fp_X9_152 (Or.inr rfl) h0.1 (by decide) (by decide) (by decide) ?_
              refine V.iload_n dX9_readText_153 rfl rfl ?_
              exact V.ret (v := some (.int x1)) rfl (Or.inl ⟨_, rfl, dX9_readText_154, _, rfl, rfl⟩) ⟨Nat.le_refl _, Nat.le_refl _⟩ H82
            · have H83 := H80.2 c81
              refine V.iconst (v := (1)) dX9_readText_145 (by decide) ?_
              refine V.goto (tgt := 150) dX9_readText_146 (by decide) ?_
              refine V.puti dX9_readText_150 fl_X9_152 fp_X9_152 (Or.inr rfl) h0.1 (by decide) (by decide) (by decide) ?_
              refine V.iload_n dX9_readText_153 rfl rfl ?_
              exact V.ret (v := some (.int x1)) rfl (Or.inl ⟨_, rfl, dX9_readText_154, _, rfl, rfl⟩) ⟨Nat.le_refl _, Nat.le_refl _⟩ H83
        · have H84 := H75.2 c76
          refine V.aload_n dX9_readText_103 rfl rfl ?_
          refine V.iload_n dX9_readText_104 rfl rfl ?_
          refine V.iconst (v := (1)) dX9_readText_105 (by decide) ?_
          refine V.iadd dX9_readText_106 ?_
          refine V.aload_n dX9_readText_107 rfl rfl ?_
          refine V.iload_n dX9_readText_108 rfl rfl ?_
          obtain ⟨r85, I86, L87, t88, H89⟩ := H84
          refine V.cVi (N := mr_X9_at) (as := [.int x1]) dX9_readText_109 ml_X9_124 ok_X9_at okV_X9_at ⟨Nat.le_of_ble_eq_true rfl, Nat.le_of_ble_eq_true rfl⟩ h0.1 rfl rfl rfl (Nat.le_of_ble_eq_true rfl) t88 ?_
          refine V.bipush (v := (45)) dX9_readText_112 (by decide) ?_
          refine V.icmp_ne (tgt := 121) dX9_readText_114 (by decide) (fun c90 => ?_) (fun c90 => ?_)
          · have H91 := H89.1 c90
            refine V.iconst (v := (0)) dX9_readText_121 (by decide) ?_
            obtain ⟨r92, I93, L94, t95, H96⟩ := H91
            refine V.cVi (N := mr_X9_readTerm) (as := [.int (x1 + (1 : Int32)), .int (0 : Int32)]) dX9_readText_122 ml_X9_155 ok_X9_readTerm okV_X9_readTerm ⟨Nat.le_of_ble_eq_true rfl, Nat.le_of_ble_eq_true rfl⟩ h0.1 rfl rfl rfl (Nat.le_of_ble_eq_true rfl) t95 ?_
            refine V.istore_n (lo' := [(1, .int r92), (0, .ref a0)]) dX9_readText_125 rfl (by decide) rfl ?_
            refine V.goto (tgt := 69) dX9_readText_126 (by decide) ?_
            exact V.los [1, 0] rfl H96
          · have H97 := H89.2 c90
            refine V.iconst (v := (1)) dX9_readText_117 (by decide) ?_
            refine V.goto (tgt := 122) dX9_readText_118 (by decide) ?_
            obtain ⟨r98, I99, L100, t101, H102⟩ := H97
            refine V.cVi (N := mr_X9_readTerm) (as := [.int (x1 + (1 : Int32)), .int (1 : Int32)]) dX9_readText_122 ml_X9_155 ok_X9_readTerm okV_X9_readTerm ⟨Nat.le_of_ble_eq_true rfl, Nat.le_of_ble_eq_true rfl⟩ h0.1 rfl rfl rfl (Nat.le_of_ble_eq_true rfl) t101 ?_
            refine V.istore_n (lo' := [(1, .int r98), (0, .ref a0)]) dX9_readText_125 rfl (by decide) rfl ?_
            refine V.goto (tgt := 69) dX9_readText_126 (by decide) ?_
            exact V.los [1, 0] rfl H102
set_option maxRecDepth 100000 in
set_option maxHeartbeats 4000000 in
theorem wp_X9_readText {S : List mjD} {RET : Option Value → mjH → Prop} {m : Nat} (hm : is_Model S m) {I : Nat → Nat → Int32} {L : Nat → Nat → Int64} (H0 : hd_X9_readText_18 S RET m (0 : Int32) (mj_up (mj_up (mj_up I m 11 (0 : Int32)) m 12 (0 : Int32)) m 13 (6 : Int32)) L) : CT mr_X9_readText (0, 0) [.ref m] (S, I, L) RET := by
  refine CT.of (lo := [(0, .ref m)]) (by decide) (fun _ _ => Nat.le_of_ble_eq_true rfl) (fun _ _ => rfl) rfl ?_
  refine V.aload_n dX9_readText_0 rfl rfl ?_
  refine V.iconst (v := (0)) dX9_readText_1 (by decide) ?_
  refine V.puti dX9_readText_2 fl_X9_152 fp_X9_152 (Or.inr rfl) hm.1 (by decide) (by decide) (by decide) ?_
  refine V.aload_n dX9_readText_5 rfl rfl ?_
  refine V.iconst (v := (0)) dX9_readText_6 (by decide) ?_
  refine V.puti dX9_readText_7 fl_X9_128 fp_X9_128 (Or.inr rfl) hm.1 (by decide) (by decide) (by decide) ?_
  refine V.aload_n dX9_readText_10 rfl rfl ?_
  refine V.bipush (v := (6)) dX9_readText_11 (by decide) ?_
  refine V.puti dX9_readText_13 fl_X9_132 fp_X9_132 (Or.inl rfl) hm.1 (by decide) rfl rfl ?_
  refine V.iconst (v := (0)) dX9_readText_16 (by decide) ?_
  refine V.istore_n (lo' := [(1, .int (0 : Int32)), (0, .ref m)]) dX9_readText_17 rfl (by decide) rfl ?_
  exact V.los [1, 0] rfl H0
def hd_X9_layFactors_7 (S : List mjD) (RET : Option Value → mjH → Prop) (a0 : Nat) (x1 : Int32) (x2 : Int32) (I : Nat → Nat → Int32) (L : Nat → Nat → Int64) : Prop := V mr_X9_layFactors (0, 0) RET 7 [(0, .ref a0), (1, .int x1), (2, .int x2)] [] (S, I, L) (0, 0)
def hd_X9_layFactors_74 (S : List mjD) (RET : Option Value → mjH → Prop) (a0 : Nat) (x2 : Int32) (I : Nat → Nat → Int32) (L : Nat → Nat → Int64) : Prop := V mr_X9_layFactors (0, 0) RET 74 [(0, .ref a0), (2, .int x2)] [] (S, I, L) (0, 0)
def hd_X9_layFactors_117 (S : List mjD) (RET : Option Value → mjH → Prop) (a0 : Nat) (x2 : Int32) (I : Nat → Nat → Int32) (L : Nat → Nat → Int64) : Prop := V mr_X9_layFactors (0, 0) RET 117 [(0, .ref a0), (2, .int x2)] [] (S, I, L) (0, 0)
def hd_X9_layFactors_131 (S : List mjD) (RET : Option Value → mjH → Prop) (a0 : Nat) (x2 : Int32) (I : Nat → Nat → Int32) (L : Nat → Nat → Int64) : Prop := V mr_X9_layFactors (0, 0) RET 131 [(0, .ref a0), (2, .int x2)] [] (S, I, L) (0, 0)
def hd_X9_layFactors_160 (S : List mjD) (RET : Option Value → mjH → Prop) (a0 : Nat) (x3 : Int32) (I : Nat → Nat → Int32) (L : Nat → Nat → Int64) : Prop := V mr_X9_layFactors (0, 0) RET 160 [(0, .ref a0), (3, .int x3)] [] (S, I, L) (0, 0)
set_option maxRecDepth 100000 in
set_option maxHeartbeats 4000000 in
theorem it_X9_layFactors_7 {S : List mjD} {RET : Option Value → mjH → Prop} {a0 : Nat} (h0 : is_Model S a0) {x1 : Int32} {x2 : Int32} {I : Nat → Nat → Int32} {L : Nat → Nat → Int64} (H0 : (((6 : Int32) ≤ x2 → ((x1 = 0 → ∃ I9 L10, CTv mr_X9_layContent [.ref a0] S (mj_up I a0 15 (1 : Int32)) L I9 L10 ∧ ∃ r13 I14 L15, CTi mr_X9_degreeNow [.ref a0] S (mj_up I9 a0 19 (0 : Int32)) L10 r13 I14 L15 ∧ hd_X9_layFactors_74 S RET a0 (0 : Int32) (mj_up I14 a0 24 r13) L15) ∧ (¬ x1 = 0 → RET none (S, I, L)))) ∧ (¬ (6 : Int32) ≤ x2 → ((x1 = 0 → ∀ y22 : Int32, y22 = x2 + 1 → hd_X9_layFactors_7 S RET a0 (0 : Int32) y22 I L) ∧ (¬ x1 = 0 → (vp_in x2 6) ∧ (vp_in x2 6) ∧ ((¬ (L (a0 + 9) x2.toNatClampNeg) = (L (a0 + 10) x2.toNatClampNeg) → ∀ y32 : Int32, y32 = x2 + 1 → hd_X9_layFactors_7 S RET a0 (0 : Int32) y32 I L) ∧ ((L (a0 + 9) x2.toNatClampNeg) = (L (a0 + 10) x2.toNatClampNeg) → ∀ y36 : Int32, y36 = x2 + 1 → hd_X9_layFactors_7 S RET a0 (1 : Int32) y36 I L))))))) : hd_X9_layFactors_7 S RET a0 x1 x2 I L := by
  unfold hd_X9_layFactors_7
  refine V.iload_n dX9_layFactors_7 rfl rfl ?_
  refine V.bipush (v := (6)) dX9_layFactors_8 (by decide) ?_
  refine V.icmp_ge (tgt := 45) dX9_layFactors_10 (by decide) (fun c4 => ?_) (fun c4 => ?_)
  · have H5 := H0.1 c4
    refine V.iload_n dX9_layFactors_45 rfl rfl ?_
    refine V.if_eq (tgt := 50) dX9_layFactors_46 (by decide) (fun c6 => ?_) (fun c6 => ?_)
    · have H7 := H5.1 c6
      refine V.aload_n dX9_layFactors_50 rfl rfl ?_
      refine V.iconst (v := (1)) dX9_layFactors_51 (by decide) ?_
      refine V.puti dX9_layFactors_52 fl_X9_237 fp_X9_237 (Or.inr rfl) h0.1 (by decide) (by decide) (by decide) ?_
      refine V.aload_n dX9_layFactors_55 rfl rfl ?_
      obtain ⟨I9, L10, t11, H12⟩ := H7
      refine V.cVv (N := mr_X9_layContent) (as := []) dX9_layFactors_56 ml_X9_240 ok_X9_layContent okV_X9_layContent ⟨Nat.le_of_ble_eq_true rfl, Nat.le_of_ble_eq_true rfl⟩ h0.1 rfl rfl rfl (Nat.le_of_ble_eq_true rfl) t11 ?_
      refine V.aload_n dX9_layFactors_59 rfl rfl ?_
      refine V.iconst (v := (0)) dX9_layFactors_60 (by decide) ?_
      refine V.puti dX9_layFactors_61 fl_X9_191 fp_X9_191 (Or.inl rfl) h0.1 (by decide) rfl rfl ?_
      refine V.aload_n dX9_layFactors_64 rfl rfl ?_
      refine V.aload_n dX9_layFactors_65 rfl rfl ?_
      obtain ⟨r13, I14, L15, t16, H17⟩ := H12
      refine V.cVi (N := mr_X9_degreeNow) (as := []) dX9_layFactors_66 ml_X9_234 ok_X9_degreeNow okV_X9_degreeNow ⟨Nat.le_of_ble_eq_true rfl, Nat.le_of_ble_eq_true rfl⟩ h0.1 rfl rfl rfl (Nat.le_of_ble_eq_true rfl) t16 ?_
      refine V.puti dX9_layFactors_69 fl_X9_185 fp_X9_185 (Or.inl rfl) h0.1 (by decide) rfl rfl ?_
      refine V.iconst (v := (0)) dX9_layFactors_72 (by decide) ?_
      refine V.istore_n (lo' := [(2, .int (0 : Int32)), (0, .ref a0), (1, .int x1)]) dX9_layFactors_73 rfl (by decide) rfl ?_
      exact V.los [1, 0] rfl H17
    · have H18 := H5.2 c6
      exact V.ret rfl (Or.inr (Or.inr (Or.inr ⟨rfl, dX9_layFactors_49, rfl⟩))) ⟨Nat.le_refl _, Nat.le_refl _⟩ H18
  · have H19 := H0.2 c4
    refine V.iload_n dX9_layFactors_13 rfl rfl ?_
    refine V.if_eq (tgt := 37) dX9_layFactors_14 (by decide) (fun c20 => ?_) (fun c20 => ?_)
    · have H21 := H19.1 c20
      refine V.iconst (v := (0)) dX9_layFactors_37 (by decide) ?_
      refine V.istore_n (lo' := [(1, .int (0 : Int32)), (0, .ref a0), (2, .int x2)]) dX9_layFactors_38 rfl (by decide) rfl ?_
      obtain ⟨y22, e23⟩ : ∃ y : Int32, y = x2 + 1 := ⟨_, rfl⟩
      have H24 := H21 y22 e23
      refine V.iinc (v := y22) (lo' := [(2, .int y22), (1, .int (0 : Int32)), (0, .ref a0)]) dX9_layFactors_39 rfl (by rw [e23]; rfl) (by decide) rfl ?_
      refine V.goto (tgt := 7) dX9_layFactors_42 (by decide) ?_
      exact V.los [2, 1, 0] rfl H24
    · have H25 := H19.2 c20
      refine V.aload_n dX9_layFactors_17 rfl rfl ?_
      refine V.getf (v := .ref (a0 + 9)) dX9_layFactors_18 fl_X9_36 h0.1 (by decide) rfl ?_
      refine V.iload_n dX9_layFactors_21 rfl rfl ?_
      obtain ⟨o26, H27⟩ := H25
      refine V.lald dX9_layFactors_22 h0.2.2.2.2.2.2.2.2.2.1 o26 ?_
      refine V.aload_n dX9_layFactors_23 rfl rfl ?_
      refine V.getf (v := .ref (a0 + 10)) dX9_layFactors_24 fl_X9_39 h0.1 (by decide) rfl ?_
      refine V.iload_n dX9_layFactors_27 rfl rfl ?_
      obtain ⟨o28, H29⟩ := H27
      refine V.lald dX9_layFactors_28 h0.2.2.2.2.2.2.2.2.2.2.1 o28 ?_
      refine V.lc_ne (tgt := 37) dX9_layFactors_29 dX9_layFactors_30 (by decide) (fun c30 => ?_) (fun c30 => ?_)
      · have H31 := H29.1 c30
        refine V.iconst (v := (0)) dX9_layFactors_37 (by decide) ?_
        refine V.istore_n (lo' := [(1, .int (0 : Int32)), (0, .ref a0), (2, .int x2)]) dX9_layFactors_38 rfl (by decide) rfl ?_
        obtain ⟨y32, e33⟩ : ∃ y : Int32, y = x2 + 1 := ⟨_, rfl⟩
        have H34 := H31 y32 e33
        refine V.iinc (v := y32) (lo' := [(2, .int y32), (1, .int (0 : Int32)), (0, .ref a0)]) dX9_layFactors_39 rfl (by rw [e33]; rfl) (by decide) rfl ?_
        refine V.goto (tgt := 7) dX9_layFactors_42 (by decide) ?_
        exact V.los [2, 1, 0] rfl H34
      · have H35 := H29.2 c30
        refine V.iconst (v := (1)) dX9_layFactors_33 (by decide) ?_
        refine V.goto (tgt := 38) dX9_layFactors_34 (by decide) ?_
        refine V.istore_n (lo' := [(1, .int (1 : Int32)), (0, .ref a0), (2, .int x2)]) dX9_layFactors_38 rfl (by decide) rfl ?_
        obtain ⟨y36, e37⟩ : ∃ y : Int32, y = x2 + 1 := ⟨_, rfl⟩
        have H38 := H35 y36 e37
        refine V.iinc (v := y36) (lo' := [(2, .int y36), (1, .int (1 : Int32)), (0, .ref a0)]) dX9_layFactors_39 rfl (by rw [e37]; rfl) (by decide) rfl ?_
        refine V.goto (tgt := 7) dX9_layFactors_42 (by decide) ?_
        exact V.los [2, 1, 0] rfl H38
set_option maxRecDepth 100000 in
set_option maxHeartbeats 4000000 in
theorem it_X9_layFactors_74 {S : List mjD} {RET : Option Value → mjH → Prop} {a0 : Nat} (h0 : is_Model S a0) {x2 : Int32} {I : Nat → Nat → Int32} {L : Nat → Nat → Int64} (H0 : (((6 : Int32) ≤ x2 → hd_X9_layFactors_117 S RET a0 (1 : Int32) I L) ∧ (¬ (6 : Int32) ≤ x2 → (vp_in x2 6) ∧ (vp_in x2 6) ∧ (vp_in x2 6) ∧ (¬ ((mj_up L (a0 + 9) x2.toNatClampNeg (L (a0 + 10) x2.toNatClampNeg)) a0 18) = 0) ∧ (vp_in x2 6) ∧ ∀ y52 : Int32, y52 = x2 + 1 → hd_X9_layFactors_74 S RET a0 y52 I (mj_up (mj_up L (a0 + 9) x2.toNatClampNeg (L (a0 + 10) x2.toNatClampNeg)) (a0 + 14) x2.toNatClampNeg (((mj_up L (a0 + 9) x2.toNatClampNeg (L (a0 + 10) x2.toNatClampNeg)) (a0 + 10) x2.toNatClampNeg) / ((mj_up L (a0 + 9) x2.toNatClampNeg (L (a0 + 10) x2.toNatClampNeg)) a0 18)))))) : hd_X9_layFactors_74 S RET a0 x2 I L := by
  unfold hd_X9_layFactors_74
  refine V.iload_n dX9_layFactors_74 rfl rfl ?_
  refine V.bipush (v := (6)) dX9_layFactors_75 (by decide) ?_
  refine V.icmp_ge (tgt := 115) dX9_layFactors_77 (by decide) (fun c39 => ?_) (fun c39 => ?_)
  · have H40 := H0.1 c39
    refine V.iconst (v := (1)) dX9_layFactors_115 (by decide) ?_
    refine V.istore_n (lo' := [(2, .int (1 : Int32)), (0, .ref a0)]) dX9_layFactors_116 rfl (by decide) rfl ?_
    exact V.los [1, 0] rfl H40
  · have H41 := H0.2 c39
    refine V.aload_n dX9_layFactors_80 rfl rfl ?_
    refine V.getf (v := .ref (a0 + 9)) dX9_layFactors_81 fl_X9_36 h0.1 (by decide) rfl ?_
    refine V.iload_n dX9_layFactors_84 rfl rfl ?_
    refine V.aload_n dX9_layFactors_85 rfl rfl ?_
    refine V.getf (v := .ref (a0 + 10)) dX9_layFactors_86 fl_X9_39 h0.1 (by decide) rfl ?_
    refine V.iload_n dX9_layFactors_89 rfl rfl ?_
    obtain ⟨o42, H43⟩ := H41
    refine V.lald dX9_layFactors_90 h0.2.2.2.2.2.2.2.2.2.2.1 o42 ?_
    obtain ⟨o44, H45⟩ := H43
    refine V.last dX9_layFactors_91 h0.2.2.2.2.2.2.2.2.2.1 o44 ?_
    refine V.aload_n dX9_layFactors_92 rfl rfl ?_
    refine V.getf (v := .ref (a0 + 14)) dX9_layFactors_93 fl_X9_51 h0.1 (by decide) rfl ?_
    refine V.iload_n dX9_layFactors_96 rfl rfl ?_
    refine V.aload_n dX9_layFactors_97 rfl rfl ?_
    refine V.getf (v := .ref (a0 + 10)) dX9_layFactors_98 fl_X9_39 h0.1 (by decide) rfl ?_
    refine V.iload_n dX9_layFactors_101 rfl rfl ?_
    obtain ⟨o46, H47⟩ := H45
    refine V.lald dX9_layFactors_102 h0.2.2.2.2.2.2.2.2.2.2.1 o46 ?_
    refine V.aload_n dX9_layFactors_103 rfl rfl ?_
    refine V.getf (v := .long ((mj_up L (a0 + 9) x2.toNatClampNeg (L (a0 + 10) x2.toNatClampNeg)) a0 18)) dX9_layFactors_104 fl_X9_230 h0.1 (by decide) rfl ?_
    obtain ⟨o48, H49⟩ := H47
    refine V.ldiv dX9_layFactors_107 o48 ?_
    obtain ⟨o50, H51⟩ := H49
    refine V.last dX9_layFactors_108 h0.2.2.2.2.2.2.2.2.2.2.2.2.2.2.1 o50 ?_
    obtain ⟨y52, e53⟩ : ∃ y : Int32, y = x2 + 1 := ⟨_, rfl⟩
    have H54 := H51 y52 e53
    refine V.iinc (v := y52) (lo' := [(2, .int y52), (0, .ref a0)]) dX9_layFactors_109 rfl (by rw [e53]; rfl) (by decide) rfl ?_
    refine V.goto (tgt := 74) dX9_layFactors_112 (by decide) ?_
    exact V.los [1, 0] rfl H54
set_option maxRecDepth 100000 in
set_option maxHeartbeats 4000000 in
theorem it_X9_layFactors_117 {S : List mjD} {RET : Option Value → mjH → Prop} {a0 : Nat} (h0 : is_Model S a0) {x2 : Int32} {I : Nat → Nat → Int32} {L : Nat → Nat → Int64} (H0 : ((x2 = 0 → hd_X9_layFactors_131 S RET a0 (1 : Int32) I L) ∧ (¬ x2 = 0 → ∃ r58 I59 L60, CTi mr_X9_findLine [.ref a0] S I L r58 I59 L60 ∧ hd_X9_layFactors_117 S RET a0 r58 I59 L60))) : hd_X9_layFactors_117 S RET a0 x2 I L := by
  unfold hd_X9_layFactors_117
  refine V.iload_n dX9_layFactors_117 rfl rfl ?_
  refine V.if_eq (tgt := 129) dX9_layFactors_118 (by decide) (fun c55 => ?_) (fun c55 => ?_)
  · have H56 := H0.1 c55
    refine V.iconst (v := (1)) dX9_layFactors_129 (by decide) ?_
    refine V.istore_n (lo' := [(2, .int (1 : Int32)), (0, .ref a0)]) dX9_layFactors_130 rfl (by decide) rfl ?_
    exact V.los [1, 0] rfl H56
  · have H57 := H0.2 c55
    refine V.aload_n dX9_layFactors_121 rfl rfl ?_
    obtain ⟨r58, I59, L60, t61, H62⟩ := H57
    refine V.cVi (N := mr_X9_findLine) (as := []) dX9_layFactors_122 ml_X9_243 ok_X9_findLine okV_X9_findLine ⟨Nat.le_of_ble_eq_true rfl, Nat.le_of_ble_eq_true rfl⟩ h0.1 rfl rfl rfl (Nat.le_of_ble_eq_true rfl) t61 ?_
    refine V.istore_n (lo' := [(2, .int r58), (0, .ref a0)]) dX9_layFactors_125 rfl (by decide) rfl ?_
    refine V.goto (tgt := 117) dX9_layFactors_126 (by decide) ?_
    exact V.los [1, 0] rfl H62
set_option maxRecDepth 100000 in
set_option maxHeartbeats 4000000 in
theorem it_X9_layFactors_131 {S : List mjD} {RET : Option Value → mjH → Prop} {a0 : Nat} (h0 : is_Model S a0) {x2 : Int32} {I : Nat → Nat → Int32} {L : Nat → Nat → Int64} (H0 : ((x2 = 0 → (((I a0 24) ≤ 0 → RET none (S, I, L)) ∧ (¬ (I a0 24) ≤ 0 → hd_X9_layFactors_160 S RET a0 (0 : Int32) (mj_up I a0 26 (I a0 24)) L))) ∧ (¬ x2 = 0 → ∃ r69 I70 L71, CTi mr_X9_findBow [.ref a0] S I L r69 I70 L71 ∧ hd_X9_layFactors_131 S RET a0 r69 I70 L71))) : hd_X9_layFactors_131 S RET a0 x2 I L := by
  unfold hd_X9_layFactors_131
  refine V.iload_n dX9_layFactors_131 rfl rfl ?_
  refine V.if_eq (tgt := 143) dX9_layFactors_132 (by decide) (fun c63 => ?_) (fun c63 => ?_)
  · have H64 := H0.1 c63
    refine V.aload_n dX9_layFactors_143 rfl rfl ?_
    refine V.getf (v := .int (I a0 24)) dX9_layFactors_144 fl_X9_185 h0.1 (by decide) rfl ?_
    refine V.if_le (tgt := 188) dX9_layFactors_147 (by decide) (fun c65 => ?_) (fun c65 => ?_)
    · have H66 := H64.1 c65
      exact V.ret rfl (Or.inr (Or.inr (Or.inr ⟨rfl, dX9_layFactors_188, rfl⟩))) ⟨Nat.le_refl _, Nat.le_refl _⟩ H66
    · have H67 := H64.2 c65
      refine V.aload_n dX9_layFactors_150 rfl rfl ?_
      refine V.aload_n dX9_layFactors_151 rfl rfl ?_
      refine V.getf (v := .int (I a0 24)) dX9_layFactors_152 fl_X9_185 h0.1 (by decide) rfl ?_
      refine V.puti dX9_layFactors_155 fl_X9_188 fp_X9_188 (Or.inl rfl) h0.1 (by decide) rfl rfl ?_
      refine V.iconst (v := (0)) dX9_layFactors_158 (by decide) ?_
      refine V.istore_n (lo' := [(3, .int (0 : Int32)), (0, .ref a0), (2, .int x2)]) dX9_layFactors_159 rfl (by decide) rfl ?_
      exact V.los [1, 0] rfl H67
  · have H68 := H0.2 c63
    refine V.aload_n dX9_layFactors_135 rfl rfl ?_
    obtain ⟨r69, I70, L71, t72, H73⟩ := H68
    refine V.cVi (N := mr_X9_findBow) (as := []) dX9_layFactors_136 ml_X9_246 ok_X9_findBow okV_X9_findBow ⟨Nat.le_of_ble_eq_true rfl, Nat.le_of_ble_eq_true rfl⟩ h0.1 rfl rfl rfl (Nat.le_of_ble_eq_true rfl) t72 ?_
    refine V.istore_n (lo' := [(2, .int r69), (0, .ref a0)]) dX9_layFactors_139 rfl (by decide) rfl ?_
    refine V.goto (tgt := 131) dX9_layFactors_140 (by decide) ?_
    exact V.los [1, 0] rfl H73
set_option maxRecDepth 100000 in
set_option maxHeartbeats 4000000 in
theorem it_X9_layFactors_160 {S : List mjD} {RET : Option Value → mjH → Prop} {a0 : Nat} (h0 : is_Model S a0) {x3 : Int32} {I : Nat → Nat → Int32} {L : Nat → Nat → Int64} (H0 : (((6 : Int32) ≤ x3 → ∃ I77 L78, CTv mr_X9_addFactor [.ref a0] S I L I77 L78 ∧ RET none (S, I77, L78)) ∧ (¬ (6 : Int32) ≤ x3 → (vp_in x3 6) ∧ (vp_in x3 6) ∧ ∀ y86 : Int32, y86 = x3 + 1 → hd_X9_layFactors_160 S RET a0 y86 I (mj_up L (a0 + 15) x3.toNatClampNeg (L (a0 + 14) x3.toNatClampNeg))))) : hd_X9_layFactors_160 S RET a0 x3 I L := by
  unfold hd_X9_layFactors_160
  refine V.iload_n dX9_layFactors_160 rfl rfl ?_
  refine V.bipush (v := (6)) dX9_layFactors_161 (by decide) ?_
  refine V.icmp_ge (tgt := 184) dX9_layFactors_163 (by decide) (fun c74 => ?_) (fun c74 => ?_)
  · have H75 := H0.1 c74
    refine V.aload_n dX9_layFactors_184 rfl rfl ?_
    obtain ⟨I77, L78, t79, H80⟩ := H75
    refine V.cVv (N := mr_X9_addFactor) (as := []) dX9_layFactors_185 ml_X9_201 ok_X9_addFactor okV_X9_addFactor ⟨Nat.le_of_ble_eq_true rfl, Nat.le_of_ble_eq_true rfl⟩ h0.1 rfl rfl rfl (Nat.le_of_ble_eq_true rfl) t79 ?_
    exact V.ret rfl (Or.inr (Or.inr (Or.inr ⟨rfl, dX9_layFactors_188, rfl⟩))) ⟨Nat.le_refl _, Nat.le_refl _⟩ H80
  · have H81 := H0.2 c74
    refine V.aload_n dX9_layFactors_166 rfl rfl ?_
    refine V.getf (v := .ref (a0 + 15)) dX9_layFactors_167 fl_X9_54 h0.1 (by decide) rfl ?_
    refine V.iload_n dX9_layFactors_170 rfl rfl ?_
    refine V.aload_n dX9_layFactors_171 rfl rfl ?_
    refine V.getf (v := .ref (a0 + 14)) dX9_layFactors_172 fl_X9_51 h0.1 (by decide) rfl ?_
    refine V.iload_n dX9_layFactors_175 rfl rfl ?_
    obtain ⟨o82, H83⟩ := H81
    refine V.lald dX9_layFactors_176 h0.2.2.2.2.2.2.2.2.2.2.2.2.2.2.1 o82 ?_
    obtain ⟨o84, H85⟩ := H83
    refine V.last dX9_layFactors_177 h0.2.2.2.2.2.2.2.2.2.2.2.2.2.2.2.1 o84 ?_
    obtain ⟨y86, e87⟩ : ∃ y : Int32, y = x3 + 1 := ⟨_, rfl⟩
    have H88 := H85 y86 e87
    refine V.iinc (v := y86) (lo' := [(3, .int y86), (0, .ref a0)]) dX9_layFactors_178 rfl (by rw [e87]; rfl) (by decide) rfl ?_
    refine V.goto (tgt := 160) dX9_layFactors_181 (by decide) ?_
    exact V.los [1, 0] rfl H88
set_option maxRecDepth 100000 in
set_option maxHeartbeats 4000000 in
theorem wp_X9_layFactors {S : List mjD} {RET : Option Value → mjH → Prop} {m : Nat} (hm : is_Model S m) {I : Nat → Nat → Int32} {L : Nat → Nat → Int64} (H0 : ∀ y1 : Int32, y1 = (I m 15) → hd_X9_layFactors_7 S RET m y1 (0 : Int32) I L) : CT mr_X9_layFactors (0, 0) [.ref m] (S, I, L) RET := by
  refine CT.of (lo := [(0, .ref m)]) (by decide) (fun _ _ => Nat.le_of_ble_eq_true rfl) (fun _ _ => rfl) rfl ?_
  refine V.aload_n dX9_layFactors_0 rfl rfl ?_
  refine V.getf (v := .int (I m 15)) dX9_layFactors_1 fl_X9_237 hm.1 (by decide) rfl ?_
  refine V.topi (fun y1 e2 => ?_)
  have H3 := H0 y1 e2
  refine V.istore_n (lo' := [(1, .int y1), (0, .ref m)]) dX9_layFactors_4 rfl (by decide) rfl ?_
  refine V.iconst (v := (0)) dX9_layFactors_5 (by decide) ?_
  refine V.istore_n (lo' := [(2, .int (0 : Int32)), (1, .int y1), (0, .ref m)]) dX9_layFactors_6 rfl (by decide) rfl ?_
  exact V.los [2, 1, 0] rfl H3
set_option maxRecDepth 100000 in
set_option maxHeartbeats 4000000 in
theorem wp_X9_parts {S : List mjD} {RET : Option Value → mjH → Prop} {m : Nat} (hm : is_Model S m) {a : Int32} {b : Int32} {c : Int32} {I : Nat → Nat → Int32} {L : Nat → Nat → Int64} (H0 : ∃ r1 I2 L3, CTi mr_X9_isFilled [.ref m, .int a] S I L r1 I2 L3 ∧ ((¬ r1 = 0 → ∃ r8 I9 L10, CTi mr_X9_isPrime [.int b] S I2 L3 r8 I9 L10 ∧ ((r8 = 0 → RET (some (.int (-102 : Int32))) (S, I9, L10)) ∧ (¬ r8 = 0 → ∃ r16 I17 L18, CTi mr_X9_within [.long c.toInt64, .long (0 : Int64), .long (1 : Int64)] S I9 L10 r16 I17 L18 ∧ ((r16 = 0 → RET (some (.int (-102 : Int32))) (S, I17, L18)) ∧ (¬ r16 = 0 → ∃ r24 I25 L26, CTi mr_X9_partsNow [.ref m, .int a, .int b, .int c] S I17 L18 r24 I25 L26 ∧ RET (some (.int r24)) (S, I25, L26)))))) ∧ (r1 = 0 → RET (some (.int (-101 : Int32))) (S, I2, L3)))) : CT mr_X9_parts (0, 0) [.ref m, .int a, .int b, .int c] (S, I, L) RET := by
  refine CT.of (lo := [(0, .ref m), (1, .int a), (2, .int b), (3, .int c)]) (by decide) (fun _ _ => Nat.le_of_ble_eq_true rfl) (fun _ _ => rfl) rfl ?_
  refine V.aload_n dX9_parts_0 rfl rfl ?_
  refine V.iload_n dX9_parts_1 rfl rfl ?_
  obtain ⟨r1, I2, L3, t4, H5⟩ := H0
  refine V.cVi (N := mr_X9_isFilled) (as := [.int a]) dX9_parts_2 ml_X9_299 ok_X9_isFilled okV_X9_isFilled ⟨Nat.le_of_ble_eq_true rfl, Nat.le_of_ble_eq_true rfl⟩ hm.1 rfl rfl rfl (Nat.le_of_ble_eq_true rfl) t4 ?_
  refine V.if_ne (tgt := 11) dX9_parts_5 (by decide) (fun c6 => ?_) (fun c6 => ?_)
  · have H7 := H5.1 c6
    refine V.iload_n dX9_parts_11 rfl rfl ?_
    obtain ⟨r8, I9, L10, t11, H12⟩ := H7
    refine V.cSi (N := mr_X9_isPrime) (as := [.int b]) dX9_parts_12 ml_X9_386 ok_X9_isPrime okS_X9_isPrime ⟨Nat.le_of_ble_eq_true rfl, Nat.le_of_ble_eq_true rfl⟩ rfl rfl (Nat.le_of_ble_eq_true rfl) t11 ?_
    refine V.if_eq (tgt := 38) dX9_parts_15 (by decide) (fun c13 => ?_) (fun c13 => ?_)
    · have H14 := H12.1 c13
      refine V.bipush (v := (-102)) dX9_parts_38 (by decide) ?_
      exact V.ret (v := some (.int (-102 : Int32))) rfl (Or.inl ⟨_, rfl, dX9_parts_40, _, rfl, rfl⟩) ⟨Nat.le_refl _, Nat.le_refl _⟩ H14
    · have H15 := H12.2 c13
      refine V.iload_n dX9_parts_18 rfl rfl ?_
      refine V.i2l dX9_parts_19 ?_
      refine V.lconst (v := 0) dX9_parts_20 (by decide) ?_
      refine V.lconst (v := 1) dX9_parts_21 (by decide) ?_
      obtain ⟨r16, I17, L18, t19, H20⟩ := H15
      refine V.cSi (N := mr_X9_within) (as := [.long c.toInt64, .long (0 : Int64), .long (1 : Int64)]) dX9_parts_22 ml_X9_116 ok_X9_within okS_X9_within ⟨Nat.le_of_ble_eq_true rfl, Nat.le_of_ble_eq_true rfl⟩ rfl rfl (Nat.le_of_ble_eq_true rfl) t19 ?_
      refine V.if_eq (tgt := 38) dX9_parts_25 (by decide) (fun c21 => ?_) (fun c21 => ?_)
      · have H22 := H20.1 c21
        refine V.bipush (v := (-102)) dX9_parts_38 (by decide) ?_
        exact V.ret (v := some (.int (-102 : Int32))) rfl (Or.inl ⟨_, rfl, dX9_parts_40, _, rfl, rfl⟩) ⟨Nat.le_refl _, Nat.le_refl _⟩ H22
      · have H23 := H20.2 c21
        refine V.aload_n dX9_parts_28 rfl rfl ?_
        refine V.iload_n dX9_parts_29 rfl rfl ?_
        refine V.iload_n dX9_parts_30 rfl rfl ?_
        refine V.iload_n dX9_parts_31 rfl rfl ?_
        obtain ⟨r24, I25, L26, t27, H28⟩ := H23
        refine V.cVi (N := mr_X9_partsNow) (as := [.int a, .int b, .int c]) dX9_parts_32 ml_X9_389 ok_X9_partsNow okV_X9_partsNow ⟨Nat.le_of_ble_eq_true rfl, Nat.le_of_ble_eq_true rfl⟩ hm.1 rfl rfl rfl (Nat.le_of_ble_eq_true rfl) t27 ?_
        refine V.goto (tgt := 40) dX9_parts_35 (by decide) ?_
        exact V.ret (v := some (.int r24)) rfl (Or.inl ⟨_, rfl, dX9_parts_40, _, rfl, rfl⟩) ⟨Nat.le_refl _, Nat.le_refl _⟩ H28
  · have H29 := H5.2 c6
    refine V.bipush (v := (-101)) dX9_parts_8 (by decide) ?_
    exact V.ret (v := some (.int (-101 : Int32))) rfl (Or.inl ⟨_, rfl, dX9_parts_10, _, rfl, rfl⟩) ⟨Nat.le_refl _, Nat.le_refl _⟩ H29
set_option maxRecDepth 100000 in
set_option maxHeartbeats 4000000 in
theorem wp_X9_degrees {S : List mjD} {RET : Option Value → mjH → Prop} {m : Nat} (hm : is_Model S m) {a : Int32} {I : Nat → Nat → Int32} {L : Nat → Nat → Int64} (H0 : ∃ r1 I2 L3, CTi mr_X9_isFilled [.ref m, .int a] S I L r1 I2 L3 ∧ ((r1 = 0 → RET (some (.int (-101 : Int32))) (S, I2, L3)) ∧ (¬ r1 = 0 → ∃ r9 I10 L11, CTi mr_X9_degreesNow [.ref m, .int a] S I2 L3 r9 I10 L11 ∧ RET (some (.int r9)) (S, I10, L11)))) : CT mr_X9_degrees (0, 0) [.ref m, .int a] (S, I, L) RET := by
  refine CT.of (lo := [(0, .ref m), (1, .int a)]) (by decide) (fun _ _ => Nat.le_of_ble_eq_true rfl) (fun _ _ => rfl) rfl ?_
  refine V.aload_n dX9_degrees_0 rfl rfl ?_
  refine V.iload_n dX9_degrees_1 rfl rfl ?_
  obtain ⟨r1, I2, L3, t4, H5⟩ := H0
  refine V.cVi (N := mr_X9_isFilled) (as := [.int a]) dX9_degrees_2 ml_X9_299 ok_X9_isFilled okV_X9_isFilled ⟨Nat.le_of_ble_eq_true rfl, Nat.le_of_ble_eq_true rfl⟩ hm.1 rfl rfl rfl (Nat.le_of_ble_eq_true rfl) t4 ?_
  refine V.if_eq (tgt := 16) dX9_degrees_5 (by decide) (fun c6 => ?_) (fun c6 => ?_)
  · have H7 := H5.1 c6
    refine V.bipush (v := (-101)) dX9_degrees_16 (by decide) ?_
    exact V.ret (v := some (.int (-101 : Int32))) rfl (Or.inl ⟨_, rfl, dX9_degrees_18, _, rfl, rfl⟩) ⟨Nat.le_refl _, Nat.le_refl _⟩ H7
  · have H8 := H5.2 c6
    refine V.aload_n dX9_degrees_8 rfl rfl ?_
    refine V.iload_n dX9_degrees_9 rfl rfl ?_
    obtain ⟨r9, I10, L11, t12, H13⟩ := H8
    refine V.cVi (N := mr_X9_degreesNow) (as := [.int a]) dX9_degrees_10 ml_X9_393 ok_X9_degreesNow okV_X9_degreesNow ⟨Nat.le_of_ble_eq_true rfl, Nat.le_of_ble_eq_true rfl⟩ hm.1 rfl rfl rfl (Nat.le_of_ble_eq_true rfl) t12 ?_
    refine V.goto (tgt := 18) dX9_degrees_13 (by decide) ?_
    exact V.ret (v := some (.int r9)) rfl (Or.inl ⟨_, rfl, dX9_degrees_18, _, rfl, rfl⟩) ⟨Nat.le_refl _, Nat.le_refl _⟩ H13
set_option maxRecDepth 100000 in
set_option maxHeartbeats 4000000 in
theorem wp_X9_fault {S : List mjD} {RET : Option Value → mjH → Prop} {m : Nat} (hm : is_Model S m) {I : Nat → Nat → Int32} {L : Nat → Nat → Int64} (H0 : ∃ r1 I2 L3, CTi mr_X9_readText [.ref m] S I L r1 I2 L3 ∧ RET (some (.int r1)) (S, I2, L3)) : CT mr_X9_fault (0, 0) [.ref m] (S, I, L) RET := by
  refine CT.of (lo := [(0, .ref m)]) (by decide) (fun _ _ => Nat.le_of_ble_eq_true rfl) (fun _ _ => rfl) rfl ?_
  refine V.aload_n dX9_fault_0 rfl rfl ?_
  obtain ⟨r1, I2, L3, t4, H5⟩ := H0
  refine V.cVi (N := mr_X9_readText) (as := []) dX9_fault_1 ml_X9_159 ok_X9_readText okV_X9_readText ⟨Nat.le_of_ble_eq_true rfl, Nat.le_of_ble_eq_true rfl⟩ hm.1 rfl rfl rfl (Nat.le_of_ble_eq_true rfl) t4 ?_
  exact V.ret (v := some (.int r1)) rfl (Or.inl ⟨_, rfl, dX9_fault_4, _, rfl, rfl⟩) ⟨Nat.le_refl _, Nat.le_refl _⟩ H5
def hd_X9_makeFree_11 (S : List mjD) (RET : Option Value → mjH → Prop) (a0 : Nat) (x1 : Int32) (I : Nat → Nat → Int32) (L : Nat → Nat → Int64) : Prop := V mr_X9_makeFree (0, 0) RET 11 [(0, .ref a0), (1, .int x1)] [] (S, I, L) (0, 0)
set_option maxRecDepth 100000 in
set_option maxHeartbeats 4000000 in
theorem it_X9_makeFree_11 {S : List mjD} {RET : Option Value → mjH → Prop} {a0 : Nat} (h0 : is_Model S a0) {x1 : Int32} {I : Nat → Nat → Int32} {L : Nat → Nat → Int64} (H0 : (((I a0 19) ≤ x1 → RET none (S, I, L)) ∧ (¬ (I a0 19) ≤ x1 → ∃ I15 L16, CTv mr_X9_timesFactor [.ref a0, .int x1] S I L I15 L16 ∧ ∀ y19 : Int32, y19 = x1 + 1 → hd_X9_makeFree_11 S RET a0 y19 I15 L16))) : hd_X9_makeFree_11 S RET a0 x1 I L := by
  unfold hd_X9_makeFree_11
  refine V.iload_n dX9_makeFree_11 rfl rfl ?_
  refine V.aload_n dX9_makeFree_12 rfl rfl ?_
  refine V.getf (v := .int (I a0 19)) dX9_makeFree_13 fl_X9_191 h0.1 (by decide) rfl ?_
  refine V.icmp_ge (tgt := 30) dX9_makeFree_16 (by decide) (fun c11 => ?_) (fun c11 => ?_)
  · have H12 := H0.1 c11
    exact V.ret rfl (Or.inr (Or.inr (Or.inr ⟨rfl, dX9_makeFree_30, rfl⟩))) ⟨Nat.le_refl _, Nat.le_refl _⟩ H12
  · have H13 := H0.2 c11
    refine V.aload_n dX9_makeFree_19 rfl rfl ?_
    refine V.iload_n dX9_makeFree_20 rfl rfl ?_
    obtain ⟨I15, L16, t17, H18⟩ := H13
    refine V.cVv (N := mr_X9_timesFactor) (as := [.int x1]) dX9_makeFree_21 ml_X9_256 ok_X9_timesFactor okV_X9_timesFactor ⟨Nat.le_of_ble_eq_true rfl, Nat.le_of_ble_eq_true rfl⟩ h0.1 rfl rfl rfl (Nat.le_of_ble_eq_true rfl) t17 ?_
    obtain ⟨y19, e20⟩ : ∃ y : Int32, y = x1 + 1 := ⟨_, rfl⟩
    have H21 := H18 y19 e20
    refine V.iinc (v := y19) (lo' := [(1, .int y19), (0, .ref a0)]) dX9_makeFree_24 rfl (by rw [e20]; rfl) (by decide) rfl ?_
    refine V.goto (tgt := 11) dX9_makeFree_27 (by decide) ?_
    exact V.los [1, 0] rfl H21
set_option maxRecDepth 100000 in
set_option maxHeartbeats 4000000 in
theorem wp_X9_makeFree {S : List mjD} {RET : Option Value → mjH → Prop} {m : Nat} (hm : is_Model S m) {I : Nat → Nat → Int32} {L : Nat → Nat → Int64} (H0 : ∃ I2 L3, CTv mr_X9_layFactors [.ref m] S I L I2 L3 ∧ ∃ I7 L8, CTv mr_X9_become [.ref m, .long (1 : Int64)] S I2 L3 I7 L8 ∧ hd_X9_makeFree_11 S RET m (0 : Int32) I7 L8) : CT mr_X9_makeFree (0, 0) [.ref m] (S, I, L) RET := by
  refine CT.of (lo := [(0, .ref m)]) (by decide) (fun _ _ => Nat.le_of_ble_eq_true rfl) (fun _ _ => rfl) rfl ?_
  refine V.aload_n dX9_makeFree_0 rfl rfl ?_
  obtain ⟨I2, L3, t4, H5⟩ := H0
  refine V.cVv (N := mr_X9_layFactors) (as := []) dX9_makeFree_1 ml_X9_249 ok_X9_layFactors okV_X9_layFactors ⟨Nat.le_of_ble_eq_true rfl, Nat.le_of_ble_eq_true rfl⟩ hm.1 rfl rfl rfl (Nat.le_of_ble_eq_true rfl) t4 ?_
  refine V.aload_n dX9_makeFree_4 rfl rfl ?_
  refine V.lconst (v := 1) dX9_makeFree_5 (by decide) ?_
  obtain ⟨I7, L8, t9, H10⟩ := H5
  refine V.cVv (N := mr_X9_become) (as := [.long (1 : Int64)]) dX9_makeFree_6 ml_X9_252 ok_X9_become okV_X9_become ⟨Nat.le_of_ble_eq_true rfl, Nat.le_of_ble_eq_true rfl⟩ hm.1 rfl rfl rfl (Nat.le_of_ble_eq_true rfl) t9 ?_
  refine V.iconst (v := (0)) dX9_makeFree_9 (by decide) ?_
  refine V.istore_n (lo' := [(1, .int (0 : Int32)), (0, .ref m)]) dX9_makeFree_10 rfl (by decide) rfl ?_
  exact V.los [1, 0] rfl H10
set_option maxRecDepth 100000 in
set_option maxHeartbeats 4000000 in
theorem wp_X9_factorsTold {S : List mjD} {RET : Option Value → mjH → Prop} {m : Nat} (hm : is_Model S m) {a : Int32} {b : Int32} {I : Nat → Nat → Int32} {L : Nat → Nat → Int64} (H0 : ∃ I2 L3, CTv mr_X9_laySlot [.ref m, .int a] S I L I2 L3 ∧ ∃ I7 L8, CTv mr_X9_layFactors [.ref m] S I2 L3 I7 L8 ∧ ((¬ b = (4 : Int32) → ∃ r13 I14 L15, CTi mr_X9_allFactors [.ref m] S I7 L8 r13 I14 L15 ∧ RET (some (.int r13)) (S, I14, L15)) ∧ (b = (4 : Int32) → RET (some (.int (I7 m 19))) (S, I7, L8)))) : CT mr_X9_factorsTold (0, 0) [.ref m, .int a, .int b] (S, I, L) RET := by
  refine CT.of (lo := [(0, .ref m), (1, .int a), (2, .int b)]) (by decide) (fun _ _ => Nat.le_of_ble_eq_true rfl) (fun _ _ => rfl) rfl ?_
  refine V.aload_n dX9_factorsTold_0 rfl rfl ?_
  refine V.iload_n dX9_factorsTold_1 rfl rfl ?_
  obtain ⟨I2, L3, t4, H5⟩ := H0
  refine V.cVv (N := mr_X9_laySlot) (as := [.int a]) dX9_factorsTold_2 ml_X9_305 ok_X9_laySlot okV_X9_laySlot ⟨Nat.le_of_ble_eq_true rfl, Nat.le_of_ble_eq_true rfl⟩ hm.1 rfl rfl rfl (Nat.le_of_ble_eq_true rfl) t4 ?_
  refine V.aload_n dX9_factorsTold_5 rfl rfl ?_
  obtain ⟨I7, L8, t9, H10⟩ := H5
  refine V.cVv (N := mr_X9_layFactors) (as := []) dX9_factorsTold_6 ml_X9_249 ok_X9_layFactors okV_X9_layFactors ⟨Nat.le_of_ble_eq_true rfl, Nat.le_of_ble_eq_true rfl⟩ hm.1 rfl rfl rfl (Nat.le_of_ble_eq_true rfl) t9 ?_
  refine V.iload_n dX9_factorsTold_9 rfl rfl ?_
  refine V.iconst (v := (4)) dX9_factorsTold_10 (by decide) ?_
  refine V.icmp_ne (tgt := 21) dX9_factorsTold_11 (by decide) (fun c11 => ?_) (fun c11 => ?_)
  · have H12 := H10.1 c11
    refine V.aload_n dX9_factorsTold_21 rfl rfl ?_
    obtain ⟨r13, I14, L15, t16, H17⟩ := H12
    refine V.cVi (N := mr_X9_allFactors) (as := []) dX9_factorsTold_22 ml_X9_324 ok_X9_allFactors okV_X9_allFactors ⟨Nat.le_of_ble_eq_true rfl, Nat.le_of_ble_eq_true rfl⟩ hm.1 rfl rfl rfl (Nat.le_of_ble_eq_true rfl) t16 ?_
    exact V.ret (v := some (.int r13)) rfl (Or.inl ⟨_, rfl, dX9_factorsTold_25, _, rfl, rfl⟩) ⟨Nat.le_refl _, Nat.le_refl _⟩ H17
  · have H18 := H10.2 c11
    refine V.aload_n dX9_factorsTold_14 rfl rfl ?_
    refine V.getf (v := .int (I7 m 19)) dX9_factorsTold_15 fl_X9_191 hm.1 (by decide) rfl ?_
    refine V.goto (tgt := 25) dX9_factorsTold_18 (by decide) ?_
    exact V.ret (v := some (.int (I7 m 19))) rfl (Or.inl ⟨_, rfl, dX9_factorsTold_25, _, rfl, rfl⟩) ⟨Nat.le_refl _, Nat.le_refl _⟩ H18
set_option maxRecDepth 100000 in
set_option maxHeartbeats 4000000 in
theorem wp_X9_factor {S : List mjD} {RET : Option Value → mjH → Prop} {m : Nat} (hm : is_Model S m) {a : Int32} {b : Int32} {c : Int32} {I : Nat → Nat → Int32} {L : Nat → Nat → Int64} (H0 : ∃ r1 I2 L3, CTi mr_X9_isFilled [.ref m, .int a] S I L r1 I2 L3 ∧ ((¬ r1 = 0 → ∃ I9 L10, CTv mr_X9_laySlot [.ref m, .int a] S I2 L3 I9 L10 ∧ ∃ I14 L15, CTv mr_X9_layFactors [.ref m] S I9 L10 I14 L15 ∧ ∃ r18 I19 L20, CTi mr_X9_within [.long b.toInt64, .long (0 : Int64), .long (((I14 m 19) - (1 : Int32)).toInt64)] S I14 L15 r18 I19 L20 ∧ ((¬ r18 = 0 → ∃ r25 I26 L27, CTi mr_X9_within [.long c.toInt64, .long (0 : Int64), .long (7 : Int64)] S I19 L20 r25 I26 L27 ∧ ((r25 = 0 → RET (some (.int (-102 : Int32))) (S, I26, L27)) ∧ (¬ r25 = 0 → ∃ r33 I34 L35, CTi mr_X9_factorNow [.ref m, .int b, .int c] S I26 L27 r33 I34 L35 ∧ RET (some (.int r33)) (S, I34, L35)))) ∧ (r18 = 0 → RET (some (.int (-101 : Int32))) (S, I19, L20)))) ∧ (r1 = 0 → RET (some (.int (-101 : Int32))) (S, I2, L3)))) : CT mr_X9_factor (0, 0) [.ref m, .int a, .int b, .int c] (S, I, L) RET := by
  refine CT.of (lo := [(0, .ref m), (1, .int a), (2, .int b), (3, .int c)]) (by decide) (fun _ _ => Nat.le_of_ble_eq_true rfl) (fun _ _ => rfl) rfl ?_
  refine V.aload_n dX9_factor_0 rfl rfl ?_
  refine V.iload_n dX9_factor_1 rfl rfl ?_
  obtain ⟨r1, I2, L3, t4, H5⟩ := H0
  refine V.cVi (N := mr_X9_isFilled) (as := [.int a]) dX9_factor_2 ml_X9_299 ok_X9_isFilled okV_X9_isFilled ⟨Nat.le_of_ble_eq_true rfl, Nat.le_of_ble_eq_true rfl⟩ hm.1 rfl rfl rfl (Nat.le_of_ble_eq_true rfl) t4 ?_
  refine V.if_ne (tgt := 11) dX9_factor_5 (by decide) (fun c6 => ?_) (fun c6 => ?_)
  · have H7 := H5.1 c6
    refine V.aload_n dX9_factor_11 rfl rfl ?_
    refine V.iload_n dX9_factor_12 rfl rfl ?_
    obtain ⟨I9, L10, t11, H12⟩ := H7
    refine V.cVv (N := mr_X9_laySlot) (as := [.int a]) dX9_factor_13 ml_X9_305 ok_X9_laySlot okV_X9_laySlot ⟨Nat.le_of_ble_eq_true rfl, Nat.le_of_ble_eq_true rfl⟩ hm.1 rfl rfl rfl (Nat.le_of_ble_eq_true rfl) t11 ?_
    refine V.aload_n dX9_factor_16 rfl rfl ?_
    obtain ⟨I14, L15, t16, H17⟩ := H12
    refine V.cVv (N := mr_X9_layFactors) (as := []) dX9_factor_17 ml_X9_249 ok_X9_layFactors okV_X9_layFactors ⟨Nat.le_of_ble_eq_true rfl, Nat.le_of_ble_eq_true rfl⟩ hm.1 rfl rfl rfl (Nat.le_of_ble_eq_true rfl) t16 ?_
    refine V.iload_n dX9_factor_20 rfl rfl ?_
    refine V.i2l dX9_factor_21 ?_
    refine V.lconst (v := 0) dX9_factor_22 (by decide) ?_
    refine V.aload_n dX9_factor_23 rfl rfl ?_
    refine V.getf (v := .int (I14 m 19)) dX9_factor_24 fl_X9_191 hm.1 (by decide) rfl ?_
    refine V.iconst (v := (1)) dX9_factor_27 (by decide) ?_
    refine V.isub dX9_factor_28 ?_
    refine V.i2l dX9_factor_29 ?_
    obtain ⟨r18, I19, L20, t21, H22⟩ := H17
    refine V.cSi (N := mr_X9_within) (as := [.long b.toInt64, .long (0 : Int64), .long (((I14 m 19) - (1 : Int32)).toInt64)]) dX9_factor_30 ml_X9_116 ok_X9_within okS_X9_within ⟨Nat.le_of_ble_eq_true rfl, Nat.le_of_ble_eq_true rfl⟩ rfl rfl (Nat.le_of_ble_eq_true rfl) t21 ?_
    refine V.if_ne (tgt := 41) dX9_factor_33 (by decide) (fun c23 => ?_) (fun c23 => ?_)
    · have H24 := H22.1 c23
      refine V.iload_n dX9_factor_41 rfl rfl ?_
      refine V.i2l dX9_factor_42 ?_
      refine V.lconst (v := 0) dX9_factor_43 (by decide) ?_
      refine V.ldc2 kc_X9_327 dX9_factor_44 ?_
      obtain ⟨r25, I26, L27, t28, H29⟩ := H24
      refine V.cSi (N := mr_X9_within) (as := [.long c.toInt64, .long (0 : Int64), .long (7 : Int64)]) dX9_factor_47 ml_X9_116 ok_X9_within okS_X9_within ⟨Nat.le_of_ble_eq_true rfl, Nat.le_of_ble_eq_true rfl⟩ rfl rfl (Nat.le_of_ble_eq_true rfl) t28 ?_
      refine V.if_eq (tgt := 62) dX9_factor_50 (by decide) (fun c30 => ?_) (fun c30 => ?_)
      · have H31 := H29.1 c30
        refine V.bipush (v := (-102)) dX9_factor_62 (by decide) ?_
        exact V.ret (v := some (.int (-102 : Int32))) rfl (Or.inl ⟨_, rfl, dX9_factor_64, _, rfl, rfl⟩) ⟨Nat.le_refl _, Nat.le_refl _⟩ H31
      · have H32 := H29.2 c30
        refine V.aload_n dX9_factor_53 rfl rfl ?_
        refine V.iload_n dX9_factor_54 rfl rfl ?_
        refine V.iload_n dX9_factor_55 rfl rfl ?_
        obtain ⟨r33, I34, L35, t36, H37⟩ := H32
        refine V.cVi (N := mr_X9_factorNow) (as := [.int b, .int c]) dX9_factor_56 ml_X9_338 ok_X9_factorNow okV_X9_factorNow ⟨Nat.le_of_ble_eq_true rfl, Nat.le_of_ble_eq_true rfl⟩ hm.1 rfl rfl rfl (Nat.le_of_ble_eq_true rfl) t36 ?_
        refine V.goto (tgt := 64) dX9_factor_59 (by decide) ?_
        exact V.ret (v := some (.int r33)) rfl (Or.inl ⟨_, rfl, dX9_factor_64, _, rfl, rfl⟩) ⟨Nat.le_refl _, Nat.le_refl _⟩ H37
    · have H38 := H22.2 c23
      refine V.bipush (v := (-101)) dX9_factor_36 (by decide) ?_
      refine V.goto (tgt := 64) dX9_factor_38 (by decide) ?_
      exact V.ret (v := some (.int (-101 : Int32))) rfl (Or.inl ⟨_, rfl, dX9_factor_64, _, rfl, rfl⟩) ⟨Nat.le_refl _, Nat.le_refl _⟩ H38
  · have H39 := H5.2 c6
    refine V.bipush (v := (-101)) dX9_factor_8 (by decide) ?_
    exact V.ret (v := some (.int (-101 : Int32))) rfl (Or.inl ⟨_, rfl, dX9_factor_10, _, rfl, rfl⟩) ⟨Nat.le_refl _, Nat.le_refl _⟩ H39
def hd_X9_drawnNow_15 (S : List mjD) (RET : Option Value → mjH → Prop) (a0 : Nat) (x1 : Int32) (x3 : Int32) (x4 : Int32) (x5 : Int32) (x6 : Int32) (I : Nat → Nat → Int32) (L : Nat → Nat → Int64) : Prop := V mr_X9_drawnNow (0, 0) RET 15 [(0, .ref a0), (1, .int x1), (3, .int x3), (4, .int x4), (5, .int x5), (6, .int x6)] [] (S, I, L) (0, 0)
def hd_X9_drawnNow_36 (S : List mjD) (RET : Option Value → mjH → Prop) (a0 : Nat) (x1 : Int32) (x3 : Int32) (x4 : Int32) (x5 : Int32) (x6 : Int32) (x7 : Int32) (I : Nat → Nat → Int32) (L : Nat → Nat → Int64) : Prop := V mr_X9_drawnNow (0, 0) RET 36 [(0, .ref a0), (1, .int x1), (3, .int x3), (4, .int x4), (5, .int x5), (6, .int x6), (7, .int x7)] [] (S, I, L) (0, 0)
set_option maxRecDepth 100000 in
set_option maxHeartbeats 4000000 in
theorem it_X9_drawnNow_15 {S : List mjD} {RET : Option Value → mjH → Prop} {a0 : Nat} (h0 : is_Model S a0) {x1 : Int32} {x3 : Int32} {x4 : Int32} {x5 : Int32} {x6 : Int32} {I : Nat → Nat → Int32} {L : Nat → Nat → Int64} (H0 : ((x1 ≤ x6 → ((¬ x3 = 0 → ((¬ x3 = (1 : Int32) → RET (some (.int ((L a0 47).toInt32))) (S, I, L)) ∧ (x3 = (1 : Int32) → RET (some (.int x5)) (S, I, L)))) ∧ (x3 = 0 → RET (some (.int x4)) (S, I, L)))) ∧ (¬ x1 ≤ x6 → ∃ I11 L12, CTv mr_X9_become [.ref a0, .long (0 : Int64)] S I L I11 L12 ∧ hd_X9_drawnNow_36 S RET a0 x1 x3 x4 x5 x6 (3 : Int32) I11 (mj_up L12 (a0 + 10) (4 : Int32).toNatClampNeg (1 : Int64))))) : hd_X9_drawnNow_15 S RET a0 x1 x3 x4 x5 x6 I L := by
  unfold hd_X9_drawnNow_15
  refine V.iload dX9_drawnNow_15 rfl ?_
  refine V.iload_n dX9_drawnNow_17 rfl rfl ?_
  refine V.icmp_ge (tgt := 100) dX9_drawnNow_18 (by decide) (fun c1 => ?_) (fun c1 => ?_)
  · have H2 := H0.1 c1
    refine V.iload_n dX9_drawnNow_100 rfl rfl ?_
    refine V.if_ne (tgt := 109) dX9_drawnNow_101 (by decide) (fun c3 => ?_) (fun c3 => ?_)
    · have H4 := H2.1 c3
      refine V.iload_n dX9_drawnNow_109 rfl rfl ?_
      refine V.iconst (v := (1)) dX9_drawnNow_110 (by decide) ?_
      refine V.icmp_ne (tgt := 119) dX9_drawnNow_111 (by decide) (fun c5 => ?_) (fun c5 => ?_)
      · have H6 := H4.1 c5
        refine V.aload_n dX9_drawnNow_119 rfl rfl ?_
        refine V.getf (v := .long (L a0 47)) dX9_drawnNow_120 fl_X9_410 h0.1 (by decide) rfl ?_
        refine V.l2i dX9_drawnNow_123 ?_
        exact V.ret (v := some (.int ((L a0 47).toInt32))) rfl (Or.inl ⟨_, rfl, dX9_drawnNow_124, _, rfl, rfl⟩) ⟨Nat.le_refl _, Nat.le_refl _⟩ H6
      · have H7 := H4.2 c5
        refine V.iload dX9_drawnNow_114 rfl ?_
        refine V.goto (tgt := 124) dX9_drawnNow_116 (by decide) ?_
        exact V.ret (v := some (.int x5)) rfl (Or.inl ⟨_, rfl, dX9_drawnNow_124, _, rfl, rfl⟩) ⟨Nat.le_refl _, Nat.le_refl _⟩ H7
    · have H8 := H2.2 c3
      refine V.iload dX9_drawnNow_104 rfl ?_
      refine V.goto (tgt := 124) dX9_drawnNow_106 (by decide) ?_
      exact V.ret (v := some (.int x4)) rfl (Or.inl ⟨_, rfl, dX9_drawnNow_124, _, rfl, rfl⟩) ⟨Nat.le_refl _, Nat.le_refl _⟩ H8
  · have H9 := H0.2 c1
    refine V.aload_n dX9_drawnNow_21 rfl rfl ?_
    refine V.lconst (v := 0) dX9_drawnNow_22 (by decide) ?_
    obtain ⟨I11, L12, t13, H14⟩ := H9
    refine V.cVv (N := mr_X9_become) (as := [.long (0 : Int64)]) dX9_drawnNow_23 ml_X9_252 ok_X9_become okV_X9_become ⟨Nat.le_of_ble_eq_true rfl, Nat.le_of_ble_eq_true rfl⟩ h0.1 rfl rfl rfl (Nat.le_of_ble_eq_true rfl) t13 ?_
    refine V.aload_n dX9_drawnNow_26 rfl rfl ?_
    refine V.getf (v := .ref (a0 + 10)) dX9_drawnNow_27 fl_X9_39 h0.1 (by decide) rfl ?_
    refine V.iconst (v := (4)) dX9_drawnNow_30 (by decide) ?_
    refine V.lconst (v := 1) dX9_drawnNow_31 (by decide) ?_
    refine V.last dX9_drawnNow_32 h0.2.2.2.2.2.2.2.2.2.2.1 (mj_lit (by decide)) ?_
    refine V.iconst (v := (3)) dX9_drawnNow_33 (by decide) ?_
    refine V.istore (lo' := [(7, .int (3 : Int32)), (0, .ref a0), (1, .int x1), (3, .int x3), (4, .int x4), (5, .int x5), (6, .int x6)]) dX9_drawnNow_34 (by decide) rfl ?_
    exact V.los [1, 2, 3, 4, 5, 6, 0] rfl H14
set_option maxRecDepth 100000 in
set_option maxHeartbeats 4000000 in
theorem it_X9_drawnNow_36 {S : List mjD} {RET : Option Value → mjH → Prop} {a0 : Nat} (h0 : is_Model S a0) {x1 : Int32} {x3 : Int32} {x4 : Int32} {x5 : Int32} {x6 : Int32} {x7 : Int32} {I : Nat → Nat → Int32} {L : Nat → Nat → Int64} (H0 : ((x7 < 0 → ∃ I18 L19, CTv mr_X9_layFactors [.ref a0] S I L I18 L19 ∧ ∃ r22 I23 L24, CTi mr_X9_allFactors [.ref a0] S I18 L19 r22 I23 L24 ∧ ((¬ r22 = (1 : Int32) → ∀ y29 : Int32, y29 = (x4 + (0 : Int32)) → ∃ r32 I33 L34, CTi mr_X9_allFactors [.ref a0] S I23 L24 r32 I33 L34 ∧ ∀ y37 : Int32, y37 = (x5 + r32) → ∀ y40 : Int32, y40 = x6 + 1 → hd_X9_drawnNow_15 S RET a0 x1 x3 y29 y37 y40 I33 L34) ∧ (r22 = (1 : Int32) → ∀ y44 : Int32, y44 = (x4 + (1 : Int32)) → ∃ r47 I48 L49, CTi mr_X9_allFactors [.ref a0] S I23 L24 r47 I48 L49 ∧ ∀ y52 : Int32, y52 = (x5 + r47) → ∀ y55 : Int32, y55 = x6 + 1 → hd_X9_drawnNow_15 S RET a0 x1 x3 y44 y52 y55 I48 L49))) ∧ (¬ x7 < 0 → ∃ r59 I60 L61, CTi mr_X9_draw [.ref a0, .int (9 : Int32)] S I L r59 I60 L61 ∧ (vp_in x7 6) ∧ ∀ y66 : Int32, y66 = x7 + (-1) → hd_X9_drawnNow_36 S RET a0 x1 x3 x4 x5 x6 y66 I60 (mj_up L61 (a0 + 10) x7.toNatClampNeg ((r59 - (4 : Int32)).toInt64))))) : hd_X9_drawnNow_36 S RET a0 x1 x3 x4 x5 x6 x7 I L := by
  unfold hd_X9_drawnNow_36
  refine V.iload dX9_drawnNow_36 rfl ?_
  refine V.if_lt (tgt := 63) dX9_drawnNow_38 (by decide) (fun c15 => ?_) (fun c15 => ?_)
  · have H16 := H0.1 c15
    refine V.aload_n dX9_drawnNow_63 rfl rfl ?_
    obtain ⟨I18, L19, t20, H21⟩ := H16
    refine V.cVv (N := mr_X9_layFactors) (as := []) dX9_drawnNow_64 ml_X9_249 ok_X9_layFactors okV_X9_layFactors ⟨Nat.le_of_ble_eq_true rfl, Nat.le_of_ble_eq_true rfl⟩ h0.1 rfl rfl rfl (Nat.le_of_ble_eq_true rfl) t20 ?_
    refine V.iload dX9_drawnNow_67 rfl ?_
    refine V.aload_n dX9_drawnNow_69 rfl rfl ?_
    obtain ⟨r22, I23, L24, t25, H26⟩ := H21
    refine V.cVi (N := mr_X9_allFactors) (as := []) dX9_drawnNow_70 ml_X9_324 ok_X9_allFactors okV_X9_allFactors ⟨Nat.le_of_ble_eq_true rfl, Nat.le_of_ble_eq_true rfl⟩ h0.1 rfl rfl rfl (Nat.le_of_ble_eq_true rfl) t25 ?_
    refine V.iconst (v := (1)) dX9_drawnNow_73 (by decide) ?_
    refine V.icmp_ne (tgt := 81) dX9_drawnNow_74 (by decide) (fun c27 => ?_) (fun c27 => ?_)
    · have H28 := H26.1 c27
      refine V.iconst (v := (0)) dX9_drawnNow_81 (by decide) ?_
      refine V.iadd dX9_drawnNow_82 ?_
      refine V.topi (fun y29 e30 => ?_)
      have H31 := H28 y29 e30
      refine V.istore (lo' := [(4, .int y29), (0, .ref a0), (1, .int x1), (3, .int x3), (5, .int x5), (6, .int x6), (7, .int x7)]) dX9_drawnNow_83 (by decide) rfl ?_
      refine V.iload dX9_drawnNow_85 rfl ?_
      refine V.aload_n dX9_drawnNow_87 rfl rfl ?_
      obtain ⟨r32, I33, L34, t35, H36⟩ := H31
      refine V.cVi (N := mr_X9_allFactors) (as := []) dX9_drawnNow_88 ml_X9_324 ok_X9_allFactors okV_X9_allFactors ⟨Nat.le_of_ble_eq_true rfl, Nat.le_of_ble_eq_true rfl⟩ h0.1 rfl rfl rfl (Nat.le_of_ble_eq_true rfl) t35 ?_
      refine V.iadd dX9_drawnNow_91 ?_
      refine V.topi (fun y37 e38 => ?_)
      have H39 := H36 y37 e38
      refine V.istore (lo' := [(5, .int y37), (4, .int y29), (0, .ref a0), (1, .int x1), (3, .int x3), (6, .int x6), (7, .int x7)]) dX9_drawnNow_92 (by decide) rfl ?_
      obtain ⟨y40, e41⟩ : ∃ y : Int32, y = x6 + 1 := ⟨_, rfl⟩
      have H42 := H39 y40 e41
      refine V.iinc (v := y40) (lo' := [(6, .int y40), (5, .int y37), (4, .int y29), (0, .ref a0), (1, .int x1), (3, .int x3), (7, .int x7)]) dX9_drawnNow_94 rfl (by rw [e41]; rfl) (by decide) rfl ?_
      refine V.goto (tgt := 15) dX9_drawnNow_97 (by decide) ?_
      exact V.los [3, 4, 5, 2, 1, 0] rfl H42
    · have H43 := H26.2 c27
      refine V.iconst (v := (1)) dX9_drawnNow_77 (by decide) ?_
      refine V.goto (tgt := 82) dX9_drawnNow_78 (by decide) ?_
      refine V.iadd dX9_drawnNow_82 ?_
      refine V.topi (fun y44 e45 => ?_)
      have H46 := H43 y44 e45
      refine V.istore (lo' := [(4, .int y44), (0, .ref a0), (1, .int x1), (3, .int x3), (5, .int x5), (6, .int x6), (7, .int x7)]) dX9_drawnNow_83 (by decide) rfl ?_
      refine V.iload dX9_drawnNow_85 rfl ?_
      refine V.aload_n dX9_drawnNow_87 rfl rfl ?_
      obtain ⟨r47, I48, L49, t50, H51⟩ := H46
      refine V.cVi (N := mr_X9_allFactors) (as := []) dX9_drawnNow_88 ml_X9_324 ok_X9_allFactors okV_X9_allFactors ⟨Nat.le_of_ble_eq_true rfl, Nat.le_of_ble_eq_true rfl⟩ h0.1 rfl rfl rfl (Nat.le_of_ble_eq_true rfl) t50 ?_
      refine V.iadd dX9_drawnNow_91 ?_
      refine V.topi (fun y52 e53 => ?_)
      have H54 := H51 y52 e53
      refine V.istore (lo' := [(5, .int y52), (4, .int y44), (0, .ref a0), (1, .int x1), (3, .int x3), (6, .int x6), (7, .int x7)]) dX9_drawnNow_92 (by decide) rfl ?_
      obtain ⟨y55, e56⟩ : ∃ y : Int32, y = x6 + 1 := ⟨_, rfl⟩
      have H57 := H54 y55 e56
      refine V.iinc (v := y55) (lo' := [(6, .int y55), (5, .int y52), (4, .int y44), (0, .ref a0), (1, .int x1), (3, .int x3), (7, .int x7)]) dX9_drawnNow_94 rfl (by rw [e56]; rfl) (by decide) rfl ?_
      refine V.goto (tgt := 15) dX9_drawnNow_97 (by decide) ?_
      exact V.los [3, 4, 5, 2, 1, 0] rfl H57
  · have H58 := H0.2 c15
    refine V.aload_n dX9_drawnNow_41 rfl rfl ?_
    refine V.getf (v := .ref (a0 + 10)) dX9_drawnNow_42 fl_X9_39 h0.1 (by decide) rfl ?_
    refine V.iload dX9_drawnNow_45 rfl ?_
    refine V.aload_n dX9_drawnNow_47 rfl rfl ?_
    refine V.bipush (v := (9)) dX9_drawnNow_48 (by decide) ?_
    obtain ⟨r59, I60, L61, t62, H63⟩ := H58
    refine V.cVi (N := mr_X9_draw) (as := [.int (9 : Int32)]) dX9_drawnNow_50 ml_X9_419 ok_X9_draw okV_X9_draw ⟨Nat.le_of_ble_eq_true rfl, Nat.le_of_ble_eq_true rfl⟩ h0.1 rfl rfl rfl (Nat.le_of_ble_eq_true rfl) t62 ?_
    refine V.iconst (v := (4)) dX9_drawnNow_53 (by decide) ?_
    refine V.isub dX9_drawnNow_54 ?_
    refine V.i2l dX9_drawnNow_55 ?_
    obtain ⟨o64, H65⟩ := H63
    refine V.last dX9_drawnNow_56 h0.2.2.2.2.2.2.2.2.2.2.1 o64 ?_
    obtain ⟨y66, e67⟩ : ∃ y : Int32, y = x7 + (-1) := ⟨_, rfl⟩
    have H68 := H65 y66 e67
    refine V.iinc (v := y66) (lo' := [(7, .int y66), (0, .ref a0), (1, .int x1), (3, .int x3), (4, .int x4), (5, .int x5), (6, .int x6)]) dX9_drawnNow_57 rfl (by rw [e67]; rfl) (by decide) rfl ?_
    refine V.goto (tgt := 36) dX9_drawnNow_60 (by decide) ?_
    exact V.los [1, 2, 3, 4, 5, 6, 0] rfl H68
set_option maxRecDepth 100000 in
set_option maxHeartbeats 4000000 in
theorem wp_X9_drawnNow {S : List mjD} {RET : Option Value → mjH → Prop} {m : Nat} (hm : is_Model S m) {a : Int32} {b : Int32} {c : Int32} {I : Nat → Nat → Int32} {L : Nat → Nat → Int64} (H0 : hd_X9_drawnNow_15 S RET m a c (0 : Int32) (0 : Int32) (0 : Int32) I (mj_up L m 47 b.toInt64)) : CT mr_X9_drawnNow (0, 0) [.ref m, .int a, .int b, .int c] (S, I, L) RET := by
  refine CT.of (lo := [(0, .ref m), (1, .int a), (2, .int b), (3, .int c)]) (by decide) (fun _ _ => Nat.le_of_ble_eq_true rfl) (fun _ _ => rfl) rfl ?_
  refine V.aload_n dX9_drawnNow_0 rfl rfl ?_
  refine V.iload_n dX9_drawnNow_1 rfl rfl ?_
  refine V.i2l dX9_drawnNow_2 ?_
  refine V.putl dX9_drawnNow_3 fl_X9_410 fp_X9_410 rfl hm.1 (by decide) ?_
  refine V.iconst (v := (0)) dX9_drawnNow_6 (by decide) ?_
  refine V.istore (lo' := [(4, .int (0 : Int32)), (0, .ref m), (1, .int a), (2, .int b), (3, .int c)]) dX9_drawnNow_7 (by decide) rfl ?_
  refine V.iconst (v := (0)) dX9_drawnNow_9 (by decide) ?_
  refine V.istore (lo' := [(5, .int (0 : Int32)), (4, .int (0 : Int32)), (0, .ref m), (1, .int a), (2, .int b), (3, .int c)]) dX9_drawnNow_10 (by decide) rfl ?_
  refine V.iconst (v := (0)) dX9_drawnNow_12 (by decide) ?_
  refine V.istore (lo' := [(6, .int (0 : Int32)), (5, .int (0 : Int32)), (4, .int (0 : Int32)), (0, .ref m), (1, .int a), (2, .int b), (3, .int c)]) dX9_drawnNow_13 (by decide) rfl ?_
  exact V.los [3, 4, 6, 2, 1, 0] rfl H0
set_option maxRecDepth 100000 in
set_option maxHeartbeats 4000000 in
theorem wp_X9_isWholeSlot {S : List mjD} {RET : Option Value → mjH → Prop} {m : Nat} (hm : is_Model S m) {a : Int32} {I : Nat → Nat → Int32} {L : Nat → Nat → Int64} (H0 : ∃ I2 L3, CTv mr_X9_laySlot [.ref m, .int a] S I L I2 L3 ∧ ∃ I7 L8, CTv mr_X9_layFactors [.ref m] S I2 L3 I7 L8 ∧ ∃ I12 L13, CTv mr_X9_layContent [.ref m] S I7 L8 I12 L13 ∧ ((¬ (L13 m 18) = (1 : Int64) → RET (some (.int (0 : Int32))) (S, I12, L13)) ∧ ((L13 m 18) = (1 : Int64) → ∃ r19 I20 L21, CTi mr_X9_allFactors [.ref m] S I12 L13 r19 I20 L21 ∧ ((¬ r19 = (1 : Int32) → RET (some (.int (0 : Int32))) (S, I20, L21)) ∧ (r19 = (1 : Int32) → RET (some (.int (1 : Int32))) (S, I20, L21)))))) : CT mr_X9_isWholeSlot (0, 0) [.ref m, .int a] (S, I, L) RET := by
  refine CT.of (lo := [(0, .ref m), (1, .int a)]) (by decide) (fun _ _ => Nat.le_of_ble_eq_true rfl) (fun _ _ => rfl) rfl ?_
  refine V.aload_n dX9_isWholeSlot_0 rfl rfl ?_
  refine V.iload_n dX9_isWholeSlot_1 rfl rfl ?_
  obtain ⟨I2, L3, t4, H5⟩ := H0
  refine V.cVv (N := mr_X9_laySlot) (as := [.int a]) dX9_isWholeSlot_2 ml_X9_305 ok_X9_laySlot okV_X9_laySlot ⟨Nat.le_of_ble_eq_true rfl, Nat.le_of_ble_eq_true rfl⟩ hm.1 rfl rfl rfl (Nat.le_of_ble_eq_true rfl) t4 ?_
  refine V.aload_n dX9_isWholeSlot_5 rfl rfl ?_
  obtain ⟨I7, L8, t9, H10⟩ := H5
  refine V.cVv (N := mr_X9_layFactors) (as := []) dX9_isWholeSlot_6 ml_X9_249 ok_X9_layFactors okV_X9_layFactors ⟨Nat.le_of_ble_eq_true rfl, Nat.le_of_ble_eq_true rfl⟩ hm.1 rfl rfl rfl (Nat.le_of_ble_eq_true rfl) t9 ?_
  refine V.aload_n dX9_isWholeSlot_9 rfl rfl ?_
  obtain ⟨I12, L13, t14, H15⟩ := H10
  refine V.cVv (N := mr_X9_layContent) (as := []) dX9_isWholeSlot_10 ml_X9_240 ok_X9_layContent okV_X9_layContent ⟨Nat.le_of_ble_eq_true rfl, Nat.le_of_ble_eq_true rfl⟩ hm.1 rfl rfl rfl (Nat.le_of_ble_eq_true rfl) t14 ?_
  refine V.aload_n dX9_isWholeSlot_13 rfl rfl ?_
  refine V.getf (v := .long (L13 m 18)) dX9_isWholeSlot_14 fl_X9_230 hm.1 (by decide) rfl ?_
  refine V.lconst (v := 1) dX9_isWholeSlot_17 (by decide) ?_
  refine V.lc_ne (tgt := 34) dX9_isWholeSlot_18 dX9_isWholeSlot_19 (by decide) (fun c16 => ?_) (fun c16 => ?_)
  · have H17 := H15.1 c16
    refine V.iconst (v := (0)) dX9_isWholeSlot_34 (by decide) ?_
    exact V.ret (v := some (.int (0 : Int32))) rfl (Or.inl ⟨_, rfl, dX9_isWholeSlot_35, _, rfl, (by decide)⟩) ⟨Nat.le_refl _, Nat.le_refl _⟩ H17
  · have H18 := H15.2 c16
    refine V.aload_n dX9_isWholeSlot_22 rfl rfl ?_
    obtain ⟨r19, I20, L21, t22, H23⟩ := H18
    refine V.cVi (N := mr_X9_allFactors) (as := []) dX9_isWholeSlot_23 ml_X9_324 ok_X9_allFactors okV_X9_allFactors ⟨Nat.le_of_ble_eq_true rfl, Nat.le_of_ble_eq_true rfl⟩ hm.1 rfl rfl rfl (Nat.le_of_ble_eq_true rfl) t22 ?_
    refine V.iconst (v := (1)) dX9_isWholeSlot_26 (by decide) ?_
    refine V.icmp_ne (tgt := 34) dX9_isWholeSlot_27 (by decide) (fun c24 => ?_) (fun c24 => ?_)
    · have H25 := H23.1 c24
      refine V.iconst (v := (0)) dX9_isWholeSlot_34 (by decide) ?_
      exact V.ret (v := some (.int (0 : Int32))) rfl (Or.inl ⟨_, rfl, dX9_isWholeSlot_35, _, rfl, (by decide)⟩) ⟨Nat.le_refl _, Nat.le_refl _⟩ H25
    · have H26 := H23.2 c24
      refine V.iconst (v := (1)) dX9_isWholeSlot_30 (by decide) ?_
      refine V.goto (tgt := 35) dX9_isWholeSlot_31 (by decide) ?_
      exact V.ret (v := some (.int (1 : Int32))) rfl (Or.inl ⟨_, rfl, dX9_isWholeSlot_35, _, rfl, (by decide)⟩) ⟨Nat.le_refl _, Nat.le_refl _⟩ H26
def hd_X9_mixFilled_2 (S : List mjD) (RET : Option Value → mjH → Prop) (a0 : Nat) (x1 : Int32) (x2 : Int32) (I : Nat → Nat → Int32) (L : Nat → Nat → Int64) : Prop := V mr_X9_mixFilled (0, 0) RET 2 [(0, .ref a0), (1, .int x1), (2, .int x2)] [] (S, I, L) (0, 0)
def hd_X9_mixFilled_36 (S : List mjD) (RET : Option Value → mjH → Prop) (a0 : Nat) (x1 : Int32) (x2 : Int32) (I : Nat → Nat → Int32) (L : Nat → Nat → Int64) : Prop := V mr_X9_mixFilled (0, 0) RET 36 [(0, .ref a0), (1, .int x1), (2, .int x2)] [] (S, I, L) (0, 0)
def hd_X9_mixFilled_102 (S : List mjD) (RET : Option Value → mjH → Prop) (a0 : Nat) (x2 : Int32) (I : Nat → Nat → Int32) (L : Nat → Nat → Int64) : Prop := V mr_X9_mixFilled (0, 0) RET 102 [(0, .ref a0), (2, .int x2)] [] (S, I, L) (0, 0)
def hd_X9_mixFilled_46 (S : List mjD) (RET : Option Value → mjH → Prop) (a0 : Nat) (x1 : Int32) (x2 : Int32) (x3 : Int32) (I : Nat → Nat → Int32) (L : Nat → Nat → Int64) : Prop := V mr_X9_mixFilled (0, 0) RET 46 [(0, .ref a0), (1, .int x1), (2, .int x2), (3, .int x3)] [] (S, I, L) (0, 0)
set_option maxRecDepth 100000 in
set_option maxHeartbeats 4000000 in
theorem it_X9_mixFilled_2 {S : List mjD} {RET : Option Value → mjH → Prop} {a0 : Nat} (h0 : is_Model S a0) {x1 : Int32} {x2 : Int32} {I : Nat → Nat → Int32} {L : Nat → Nat → Int64} (H0 : (((6 : Int32) ≤ x2 → ∃ I4 L5, CTv mr_X9_laySlot [.ref a0, .int x1] S I L I4 L5 ∧ ∃ I9 L10, CTv mr_X9_layFactors [.ref a0] S I4 L5 I9 L10 ∧ hd_X9_mixFilled_36 S RET a0 x1 (0 : Int32) I9 L10) ∧ (¬ (6 : Int32) ≤ x2 → ∃ r14 I15 L16, CTi mr_X9_numberNow [.ref a0, .int x1, .int x2] S I L r14 I15 L16 ∧ ∃ I20 L21, CTv mr_X9_mix [.ref a0, .long r14.toInt64] S I15 L16 I20 L21 ∧ ∀ y24 : Int32, y24 = x2 + 1 → hd_X9_mixFilled_2 S RET a0 x1 y24 I20 L21))) : hd_X9_mixFilled_2 S RET a0 x1 x2 I L := by
  unfold hd_X9_mixFilled_2
  refine V.iload_n dX9_mixFilled_2 rfl rfl ?_
  refine V.bipush (v := (6)) dX9_mixFilled_3 (by decide) ?_
  refine V.icmp_ge (tgt := 25) dX9_mixFilled_5 (by decide) (fun c1 => ?_) (fun c1 => ?_)
  · have H2 := H0.1 c1
    refine V.aload_n dX9_mixFilled_25 rfl rfl ?_
    refine V.iload_n dX9_mixFilled_26 rfl rfl ?_
    obtain ⟨I4, L5, t6, H7⟩ := H2
    refine V.cVv (N := mr_X9_laySlot) (as := [.int x1]) dX9_mixFilled_27 ml_X9_305 ok_X9_laySlot okV_X9_laySlot ⟨Nat.le_of_ble_eq_true rfl, Nat.le_of_ble_eq_true rfl⟩ h0.1 rfl rfl rfl (Nat.le_of_ble_eq_true rfl) t6 ?_
    refine V.aload_n dX9_mixFilled_30 rfl rfl ?_
    obtain ⟨I9, L10, t11, H12⟩ := H7
    refine V.cVv (N := mr_X9_layFactors) (as := []) dX9_mixFilled_31 ml_X9_249 ok_X9_layFactors okV_X9_layFactors ⟨Nat.le_of_ble_eq_true rfl, Nat.le_of_ble_eq_true rfl⟩ h0.1 rfl rfl rfl (Nat.le_of_ble_eq_true rfl) t11 ?_
    refine V.iconst (v := (0)) dX9_mixFilled_34 (by decide) ?_
    refine V.istore_n (lo' := [(2, .int (0 : Int32)), (0, .ref a0), (1, .int x1)]) dX9_mixFilled_35 rfl (by decide) rfl ?_
    exact V.los [1, 2, 0] rfl H12
  · have H13 := H0.2 c1
    refine V.aload_n dX9_mixFilled_8 rfl rfl ?_
    refine V.aload_n dX9_mixFilled_9 rfl rfl ?_
    refine V.iload_n dX9_mixFilled_10 rfl rfl ?_
    refine V.iload_n dX9_mixFilled_11 rfl rfl ?_
    obtain ⟨r14, I15, L16, t17, H18⟩ := H13
    refine V.cVi (N := mr_X9_numberNow) (as := [.int x1, .int x2]) dX9_mixFilled_12 ml_X9_334 ok_X9_numberNow okV_X9_numberNow ⟨Nat.le_of_ble_eq_true rfl, Nat.le_of_ble_eq_true rfl⟩ h0.1 rfl rfl rfl (Nat.le_of_ble_eq_true rfl) t17 ?_
    refine V.i2l dX9_mixFilled_15 ?_
    obtain ⟨I20, L21, t22, H23⟩ := H18
    refine V.cVv (N := mr_X9_mix) (as := [.long r14.toInt64]) dX9_mixFilled_16 ml_X9_453 ok_X9_mix okV_X9_mix ⟨Nat.le_of_ble_eq_true rfl, Nat.le_of_ble_eq_true rfl⟩ h0.1 rfl rfl rfl (Nat.le_of_ble_eq_true rfl) t22 ?_
    obtain ⟨y24, e25⟩ : ∃ y : Int32, y = x2 + 1 := ⟨_, rfl⟩
    have H26 := H23 y24 e25
    refine V.iinc (v := y24) (lo' := [(2, .int y24), (0, .ref a0), (1, .int x1)]) dX9_mixFilled_19 rfl (by rw [e25]; rfl) (by decide) rfl ?_
    refine V.goto (tgt := 2) dX9_mixFilled_22 (by decide) ?_
    exact V.los [1, 2, 0] rfl H26
set_option maxRecDepth 100000 in
set_option maxHeartbeats 4000000 in
theorem it_X9_mixFilled_36 {S : List mjD} {RET : Option Value → mjH → Prop} {a0 : Nat} (h0 : is_Model S a0) {x1 : Int32} {x2 : Int32} {I : Nat → Nat → Int32} {L : Nat → Nat → Int64} (H0 : (((I a0 19) ≤ x2 → ∃ r29 I30 L31, CTi mr_X9_degreesNow [.ref a0, .int x1] S I L r29 I30 L31 ∧ ∃ I35 L36, CTv mr_X9_mix [.ref a0, .long r29.toInt64] S I30 L31 I35 L36 ∧ ∃ r39 I40 L41, CTl mr_X9_valueNow [.ref a0, .int x1, .int (3 : Int32)] S I35 L36 r39 I40 L41 ∧ ∃ I45 L46, CTv mr_X9_mix [.ref a0, .long r39] S I40 L41 I45 L46 ∧ ∃ I50 L51, CTv mr_X9_layText [.ref a0, .int x1] S I45 L46 I50 L51 ∧ hd_X9_mixFilled_102 S RET a0 (0 : Int32) I50 L51) ∧ (¬ (I a0 19) ≤ x2 → hd_X9_mixFilled_46 S RET a0 x1 x2 (0 : Int32) I L))) : hd_X9_mixFilled_36 S RET a0 x1 x2 I L := by
  unfold hd_X9_mixFilled_36
  refine V.iload_n dX9_mixFilled_36 rfl rfl ?_
  refine V.aload_n dX9_mixFilled_37 rfl rfl ?_
  refine V.getf (v := .int (I a0 19)) dX9_mixFilled_38 fl_X9_191 h0.1 (by decide) rfl ?_
  refine V.icmp_ge (tgt := 75) dX9_mixFilled_41 (by decide) (fun c27 => ?_) (fun c27 => ?_)
  · have H28 := H0.1 c27
    refine V.aload_n dX9_mixFilled_75 rfl rfl ?_
    refine V.aload_n dX9_mixFilled_76 rfl rfl ?_
    refine V.iload_n dX9_mixFilled_77 rfl rfl ?_
    obtain ⟨r29, I30, L31, t32, H33⟩ := H28
    refine V.cVi (N := mr_X9_degreesNow) (as := [.int x1]) dX9_mixFilled_78 ml_X9_393 ok_X9_degreesNow okV_X9_degreesNow ⟨Nat.le_of_ble_eq_true rfl, Nat.le_of_ble_eq_true rfl⟩ h0.1 rfl rfl rfl (Nat.le_of_ble_eq_true rfl) t32 ?_
    refine V.i2l dX9_mixFilled_81 ?_
    obtain ⟨I35, L36, t37, H38⟩ := H33
    refine V.cVv (N := mr_X9_mix) (as := [.long r29.toInt64]) dX9_mixFilled_82 ml_X9_453 ok_X9_mix okV_X9_mix ⟨Nat.le_of_ble_eq_true rfl, Nat.le_of_ble_eq_true rfl⟩ h0.1 rfl rfl rfl (Nat.le_of_ble_eq_true rfl) t37 ?_
    refine V.aload_n dX9_mixFilled_85 rfl rfl ?_
    refine V.aload_n dX9_mixFilled_86 rfl rfl ?_
    refine V.iload_n dX9_mixFilled_87 rfl rfl ?_
    refine V.iconst (v := (3)) dX9_mixFilled_88 (by decide) ?_
    obtain ⟨r39, I40, L41, t42, H43⟩ := H38
    refine V.cVl (N := mr_X9_valueNow) (as := [.int x1, .int (3 : Int32)]) dX9_mixFilled_89 ml_X9_345 ok_X9_valueNow okV_X9_valueNow ⟨Nat.le_of_ble_eq_true rfl, Nat.le_of_ble_eq_true rfl⟩ h0.1 rfl rfl rfl (Nat.le_of_ble_eq_true rfl) t42 ?_
    obtain ⟨I45, L46, t47, H48⟩ := H43
    refine V.cVv (N := mr_X9_mix) (as := [.long r39]) dX9_mixFilled_92 ml_X9_453 ok_X9_mix okV_X9_mix ⟨Nat.le_of_ble_eq_true rfl, Nat.le_of_ble_eq_true rfl⟩ h0.1 rfl rfl rfl (Nat.le_of_ble_eq_true rfl) t47 ?_
    refine V.aload_n dX9_mixFilled_95 rfl rfl ?_
    refine V.iload_n dX9_mixFilled_96 rfl rfl ?_
    obtain ⟨I50, L51, t52, H53⟩ := H48
    refine V.cVv (N := mr_X9_layText) (as := [.int x1]) dX9_mixFilled_97 ml_X9_302 ok_X9_layText okV_X9_layText ⟨Nat.le_of_ble_eq_true rfl, Nat.le_of_ble_eq_true rfl⟩ h0.1 rfl rfl rfl (Nat.le_of_ble_eq_true rfl) t52 ?_
    refine V.iconst (v := (0)) dX9_mixFilled_100 (by decide) ?_
    refine V.istore_n (lo' := [(2, .int (0 : Int32)), (0, .ref a0), (1, .int x1)]) dX9_mixFilled_101 rfl (by decide) rfl ?_
    exact V.los [1, 0] rfl H53
  · have H54 := H0.2 c27
    refine V.iconst (v := (0)) dX9_mixFilled_44 (by decide) ?_
    refine V.istore_n (lo' := [(3, .int (0 : Int32)), (0, .ref a0), (1, .int x1), (2, .int x2)]) dX9_mixFilled_45 rfl (by decide) rfl ?_
    exact V.los [1, 2, 3, 0] rfl H54
set_option maxRecDepth 100000 in
set_option maxHeartbeats 4000000 in
theorem it_X9_mixFilled_102 {S : List mjD} {RET : Option Value → mjH → Prop} {a0 : Nat} (h0 : is_Model S a0) {x2 : Int32} {I : Nat → Nat → Int32} {L : Nat → Nat → Int64} (H0 : (((I a0 36) ≤ x2 → RET none (S, I, L)) ∧ (¬ (I a0 36) ≤ x2 → (vp_in x2 64) ∧ ∃ I61 L62, CTv mr_X9_mix [.ref a0, .long ((I (a0 + 22) x2.toNatClampNeg).toInt64)] S I L I61 L62 ∧ ∀ y65 : Int32, y65 = x2 + 1 → hd_X9_mixFilled_102 S RET a0 y65 I61 L62))) : hd_X9_mixFilled_102 S RET a0 x2 I L := by
  unfold hd_X9_mixFilled_102
  refine V.iload_n dX9_mixFilled_102 rfl rfl ?_
  refine V.aload_n dX9_mixFilled_103 rfl rfl ?_
  refine V.getf (v := .int (I a0 36)) dX9_mixFilled_104 fl_X9_283 h0.1 (by decide) rfl ?_
  refine V.icmp_ge (tgt := 127) dX9_mixFilled_107 (by decide) (fun c55 => ?_) (fun c55 => ?_)
  · have H56 := H0.1 c55
    exact V.ret rfl (Or.inr (Or.inr (Or.inr ⟨rfl, dX9_mixFilled_127, rfl⟩))) ⟨Nat.le_refl _, Nat.le_refl _⟩ H56
  · have H57 := H0.2 c55
    refine V.aload_n dX9_mixFilled_110 rfl rfl ?_
    refine V.aload_n dX9_mixFilled_111 rfl rfl ?_
    refine V.getf (v := .ref (a0 + 22)) dX9_mixFilled_112 fl_X9_75 h0.1 (by decide) rfl ?_
    refine V.iload_n dX9_mixFilled_115 rfl rfl ?_
    obtain ⟨o58, H59⟩ := H57
    refine V.iald dX9_mixFilled_116 h0.2.2.2.2.2.2.2.2.2.2.2.2.2.2.2.2.2.2.2.2.2.2.1 o58 ?_
    refine V.i2l dX9_mixFilled_117 ?_
    obtain ⟨I61, L62, t63, H64⟩ := H59
    refine V.cVv (N := mr_X9_mix) (as := [.long ((I (a0 + 22) x2.toNatClampNeg).toInt64)]) dX9_mixFilled_118 ml_X9_453 ok_X9_mix okV_X9_mix ⟨Nat.le_of_ble_eq_true rfl, Nat.le_of_ble_eq_true rfl⟩ h0.1 rfl rfl rfl (Nat.le_of_ble_eq_true rfl) t63 ?_
    obtain ⟨y65, e66⟩ : ∃ y : Int32, y = x2 + 1 := ⟨_, rfl⟩
    have H67 := H64 y65 e66
    refine V.iinc (v := y65) (lo' := [(2, .int y65), (0, .ref a0)]) dX9_mixFilled_121 rfl (by rw [e66]; rfl) (by decide) rfl ?_
    refine V.goto (tgt := 102) dX9_mixFilled_124 (by decide) ?_
    exact V.los [1, 0] rfl H67
set_option maxRecDepth 100000 in
set_option maxHeartbeats 4000000 in
theorem it_X9_mixFilled_46 {S : List mjD} {RET : Option Value → mjH → Prop} {a0 : Nat} (h0 : is_Model S a0) {x1 : Int32} {x2 : Int32} {x3 : Int32} {I : Nat → Nat → Int32} {L : Nat → Nat → Int64} (H0 : (((8 : Int32) ≤ x3 → ∀ y70 : Int32, y70 = x2 + 1 → hd_X9_mixFilled_36 S RET a0 x1 y70 I L) ∧ (¬ (8 : Int32) ≤ x3 → ∃ r74 I75 L76, CTi mr_X9_factorNow [.ref a0, .int x2, .int x3] S I L r74 I75 L76 ∧ ∃ I80 L81, CTv mr_X9_mix [.ref a0, .long r74.toInt64] S I75 L76 I80 L81 ∧ ∀ y84 : Int32, y84 = x3 + 1 → hd_X9_mixFilled_46 S RET a0 x1 x2 y84 I80 L81))) : hd_X9_mixFilled_46 S RET a0 x1 x2 x3 I L := by
  unfold hd_X9_mixFilled_46
  refine V.iload_n dX9_mixFilled_46 rfl rfl ?_
  refine V.bipush (v := (8)) dX9_mixFilled_47 (by decide) ?_
  refine V.icmp_ge (tgt := 69) dX9_mixFilled_49 (by decide) (fun c68 => ?_) (fun c68 => ?_)
  · have H69 := H0.1 c68
    obtain ⟨y70, e71⟩ : ∃ y : Int32, y = x2 + 1 := ⟨_, rfl⟩
    have H72 := H69 y70 e71
    refine V.iinc (v := y70) (lo' := [(2, .int y70), (0, .ref a0), (1, .int x1), (3, .int x3)]) dX9_mixFilled_69 rfl (by rw [e71]; rfl) (by decide) rfl ?_
    refine V.goto (tgt := 36) dX9_mixFilled_72 (by decide) ?_
    exact V.los [1, 2, 0] rfl H72
  · have H73 := H0.2 c68
    refine V.aload_n dX9_mixFilled_52 rfl rfl ?_
    refine V.aload_n dX9_mixFilled_53 rfl rfl ?_
    refine V.iload_n dX9_mixFilled_54 rfl rfl ?_
    refine V.iload_n dX9_mixFilled_55 rfl rfl ?_
    obtain ⟨r74, I75, L76, t77, H78⟩ := H73
    refine V.cVi (N := mr_X9_factorNow) (as := [.int x2, .int x3]) dX9_mixFilled_56 ml_X9_338 ok_X9_factorNow okV_X9_factorNow ⟨Nat.le_of_ble_eq_true rfl, Nat.le_of_ble_eq_true rfl⟩ h0.1 rfl rfl rfl (Nat.le_of_ble_eq_true rfl) t77 ?_
    refine V.i2l dX9_mixFilled_59 ?_
    obtain ⟨I80, L81, t82, H83⟩ := H78
    refine V.cVv (N := mr_X9_mix) (as := [.long r74.toInt64]) dX9_mixFilled_60 ml_X9_453 ok_X9_mix okV_X9_mix ⟨Nat.le_of_ble_eq_true rfl, Nat.le_of_ble_eq_true rfl⟩ h0.1 rfl rfl rfl (Nat.le_of_ble_eq_true rfl) t82 ?_
    obtain ⟨y84, e85⟩ : ∃ y : Int32, y = x3 + 1 := ⟨_, rfl⟩
    have H86 := H83 y84 e85
    refine V.iinc (v := y84) (lo' := [(3, .int y84), (0, .ref a0), (1, .int x1), (2, .int x2)]) dX9_mixFilled_63 rfl (by rw [e85]; rfl) (by decide) rfl ?_
    refine V.goto (tgt := 46) dX9_mixFilled_66 (by decide) ?_
    exact V.los [1, 2, 3, 0] rfl H86
set_option maxRecDepth 100000 in
set_option maxHeartbeats 4000000 in
theorem wp_X9_mixFilled {S : List mjD} {RET : Option Value → mjH → Prop} {m : Nat} (hm : is_Model S m) {a : Int32} {I : Nat → Nat → Int32} {L : Nat → Nat → Int64} (H0 : hd_X9_mixFilled_2 S RET m a (0 : Int32) I L) : CT mr_X9_mixFilled (0, 0) [.ref m, .int a] (S, I, L) RET := by
  refine CT.of (lo := [(0, .ref m), (1, .int a)]) (by decide) (fun _ _ => Nat.le_of_ble_eq_true rfl) (fun _ _ => rfl) rfl ?_
  refine V.iconst (v := (0)) dX9_mixFilled_0 (by decide) ?_
  refine V.istore_n (lo' := [(2, .int (0 : Int32)), (0, .ref m), (1, .int a)]) dX9_mixFilled_1 rfl (by decide) rfl ?_
  exact V.los [1, 2, 0] rfl H0
set_option maxRecDepth 100000 in
set_option maxHeartbeats 4000000 in
theorem wp_X9_makeBy {S : List mjD} {RET : Option Value → mjH → Prop} {m : Nat} (hm : is_Model S m) {a : Int32} {I : Nat → Nat → Int32} {L : Nat → Nat → Int64} (H0 : ((a = 1 → ∃ I5 L6, CTv mr_X9_makePure [.ref m] S I L I5 L6 ∧ RET none (S, I5, L6)) ∧ (a = 2 → ∃ I11 L12, CTv mr_X9_makeFree [.ref m] S I L I11 L12 ∧ RET none (S, I11, L12)) ∧ (a = 3 → ∃ I17 L18, CTv mr_X9_makeTurned [.ref m] S I L I17 L18 ∧ RET none (S, I17, L18)) ∧ (a = 4 → ∃ I23 L24, CTv mr_X9_makeMirror [.ref m] S I L I23 L24 ∧ RET none (S, I23, L24)) ∧ (a.toInt < 1 ∨ 4 < a.toInt → RET none (S, I, L)))) : CT mr_X9_makeBy (0, 0) [.ref m, .int a] (S, I, L) RET := by
  refine CT.of (lo := [(0, .ref m), (1, .int a)]) (by decide) (fun _ _ => Nat.le_of_ble_eq_true rfl) (fun _ _ => rfl) rfl ?_
  refine V.iload_n dX9_makeBy_0 rfl rfl ?_
  rcases mj_sw_1_4 a with c1 | c1 | c1 | c1 | c1
  · have H3 := H0.1 c1
    refine V.tableIn (off := 31) (tgt := 32) dX9_makeBy_1 (by rw [c1]; decide) (by rw [c1]; decide) (by rw [c1]; rfl) (by decide) ?_
    refine V.aload_n dX9_makeBy_32 rfl rfl ?_
    obtain ⟨I5, L6, t7, H8⟩ := H3
    refine V.cVv (N := mr_X9_makePure) (as := []) dX9_makeBy_33 ml_X9_260 ok_X9_makePure okV_X9_makePure ⟨Nat.le_of_ble_eq_true rfl, Nat.le_of_ble_eq_true rfl⟩ hm.1 rfl rfl rfl (Nat.le_of_ble_eq_true rfl) t7 ?_
    refine V.goto (tgt := 60) dX9_makeBy_36 (by decide) ?_
    exact V.ret rfl (Or.inr (Or.inr (Or.inr ⟨rfl, dX9_makeBy_60, rfl⟩))) ⟨Nat.le_refl _, Nat.le_refl _⟩ H8
  · have H9 := H0.2.1 c1
    refine V.tableIn (off := 38) (tgt := 39) dX9_makeBy_1 (by rw [c1]; decide) (by rw [c1]; decide) (by rw [c1]; rfl) (by decide) ?_
    refine V.aload_n dX9_makeBy_39 rfl rfl ?_
    obtain ⟨I11, L12, t13, H14⟩ := H9
    refine V.cVv (N := mr_X9_makeFree) (as := []) dX9_makeBy_40 ml_X9_263 ok_X9_makeFree okV_X9_makeFree ⟨Nat.le_of_ble_eq_true rfl, Nat.le_of_ble_eq_true rfl⟩ hm.1 rfl rfl rfl (Nat.le_of_ble_eq_true rfl) t13 ?_
    refine V.goto (tgt := 60) dX9_makeBy_43 (by decide) ?_
    exact V.ret rfl (Or.inr (Or.inr (Or.inr ⟨rfl, dX9_makeBy_60, rfl⟩))) ⟨Nat.le_refl _, Nat.le_refl _⟩ H14
  · have H15 := H0.2.2.1 c1
    refine V.tableIn (off := 45) (tgt := 46) dX9_makeBy_1 (by rw [c1]; decide) (by rw [c1]; decide) (by rw [c1]; rfl) (by decide) ?_
    refine V.aload_n dX9_makeBy_46 rfl rfl ?_
    obtain ⟨I17, L18, t19, H20⟩ := H15
    refine V.cVv (N := mr_X9_makeTurned) (as := []) dX9_makeBy_47 ml_X9_266 ok_X9_makeTurned okV_X9_makeTurned ⟨Nat.le_of_ble_eq_true rfl, Nat.le_of_ble_eq_true rfl⟩ hm.1 rfl rfl rfl (Nat.le_of_ble_eq_true rfl) t19 ?_
    refine V.goto (tgt := 60) dX9_makeBy_50 (by decide) ?_
    exact V.ret rfl (Or.inr (Or.inr (Or.inr ⟨rfl, dX9_makeBy_60, rfl⟩))) ⟨Nat.le_refl _, Nat.le_refl _⟩ H20
  · have H21 := H0.2.2.2.1 c1
    refine V.tableIn (off := 52) (tgt := 53) dX9_makeBy_1 (by rw [c1]; decide) (by rw [c1]; decide) (by rw [c1]; rfl) (by decide) ?_
    refine V.aload_n dX9_makeBy_53 rfl rfl ?_
    obtain ⟨I23, L24, t25, H26⟩ := H21
    refine V.cVv (N := mr_X9_makeMirror) (as := []) dX9_makeBy_54 ml_X9_269 ok_X9_makeMirror okV_X9_makeMirror ⟨Nat.le_of_ble_eq_true rfl, Nat.le_of_ble_eq_true rfl⟩ hm.1 rfl rfl rfl (Nat.le_of_ble_eq_true rfl) t25 ?_
    refine V.goto (tgt := 60) dX9_makeBy_57 (by decide) ?_
    exact V.ret rfl (Or.inr (Or.inr (Or.inr ⟨rfl, dX9_makeBy_60, rfl⟩))) ⟨Nat.le_refl _, Nat.le_refl _⟩ H26
  · have H27 := H0.2.2.2.2 c1
    refine V.tableOut (tgt := 60) dX9_makeBy_1 c1 (by decide) ?_
    exact V.ret rfl (Or.inr (Or.inr (Or.inr ⟨rfl, dX9_makeBy_60, rfl⟩))) ⟨Nat.le_refl _, Nat.le_refl _⟩ H27
def hd_X9_ofSlots_4 (S : List mjD) (RET : Option Value → mjH → Prop) (a0 : Nat) (x1 : Int32) (x2 : Int32) (x3 : Int32) (I : Nat → Nat → Int32) (L : Nat → Nat → Int64) : Prop := V mr_X9_ofSlots (0, 0) RET 4 [(0, .ref a0), (1, .int x1), (2, .int x2), (3, .int x3)] [] (S, I, L) (0, 0)
set_option maxRecDepth 100000 in
set_option maxHeartbeats 4000000 in
theorem it_X9_ofSlots_4 {S : List mjD} {RET : Option Value → mjH → Prop} {a0 : Nat} (h0 : is_Model S a0) {x1 : Int32} {x2 : Int32} {x3 : Int32} {I : Nat → Nat → Int32} {L : Nat → Nat → Int64} (H0 : (((I a0 1) ≤ x3 → RET (some (.int x2)) (S, I, L)) ∧ (¬ (I a0 1) ≤ x3 → (vp_in x3 4) ∧ (((I (a0 + 3) x3.toNatClampNeg) < 0 → ∀ y8 : Int32, y8 = x3 + 1 → hd_X9_ofSlots_4 S RET a0 x1 x2 y8 I L) ∧ (¬ (I (a0 + 3) x3.toNatClampNeg) < 0 → ((¬ x1 = (3 : Int32) → ((¬ x1 = (4 : Int32) → ∃ r16 I17 L18, CTi mr_X9_isWholeSlot [.ref a0, .int x3] S I L r16 I17 L18 ∧ ((r16 = 0 → ∀ y23 : Int32, y23 = (x2 + (0 : Int32)) → ∀ y26 : Int32, y26 = x3 + 1 → hd_X9_ofSlots_4 S RET a0 x1 y23 y26 I17 L18) ∧ (¬ r16 = 0 → ∀ y30 : Int32, y30 = (x2 + (1 : Int32)) → ∀ y33 : Int32, y33 = x3 + 1 → hd_X9_ofSlots_4 S RET a0 x1 y30 y33 I17 L18))) ∧ (x1 = (4 : Int32) → ∃ r37 I38 L39, CTi mr_X9_letters [.ref a0, .int x3] S I L r37 I38 L39 ∧ ∀ y42 : Int32, y42 = (x2 + r37) → ∀ y45 : Int32, y45 = x3 + 1 → hd_X9_ofSlots_4 S RET a0 x1 y42 y45 I38 L39))) ∧ (x1 = (3 : Int32) → (vp_in x3 4) ∧ ∀ y51 : Int32, y51 = (x2 + (I (a0 + 3) x3.toNatClampNeg)) → ∀ y54 : Int32, y54 = x3 + 1 → hd_X9_ofSlots_4 S RET a0 x1 y51 y54 I L))))))) : hd_X9_ofSlots_4 S RET a0 x1 x2 x3 I L := by
  unfold hd_X9_ofSlots_4
  refine V.iload_n dX9_ofSlots_4 rfl rfl ?_
  refine V.aload_n dX9_ofSlots_5 rfl rfl ?_
  refine V.getf (v := .int (I a0 1)) dX9_ofSlots_6 fl_X9_168 h0.1 (by decide) rfl ?_
  refine V.icmp_ge (tgt := 70) dX9_ofSlots_9 (by decide) (fun c1 => ?_) (fun c1 => ?_)
  · have H2 := H0.1 c1
    refine V.iload_n dX9_ofSlots_70 rfl rfl ?_
    exact V.ret (v := some (.int x2)) rfl (Or.inl ⟨_, rfl, dX9_ofSlots_71, _, rfl, rfl⟩) ⟨Nat.le_refl _, Nat.le_refl _⟩ H2
  · have H3 := H0.2 c1
    refine V.aload_n dX9_ofSlots_12 rfl rfl ?_
    refine V.getf (v := .ref (a0 + 3)) dX9_ofSlots_13 fl_X9_17 h0.1 (by decide) rfl ?_
    refine V.iload_n dX9_ofSlots_16 rfl rfl ?_
    obtain ⟨o4, H5⟩ := H3
    refine V.iald dX9_ofSlots_17 h0.2.2.2.1 o4 ?_
    refine V.if_lt (tgt := 64) dX9_ofSlots_18 (by decide) (fun c6 => ?_) (fun c6 => ?_)
    · have H7 := H5.1 c6
      obtain ⟨y8, e9⟩ : ∃ y : Int32, y = x3 + 1 := ⟨_, rfl⟩
      have H10 := H7 y8 e9
      refine V.iinc (v := y8) (lo' := [(3, .int y8), (0, .ref a0), (1, .int x1), (2, .int x2)]) dX9_ofSlots_64 rfl (by rw [e9]; rfl) (by decide) rfl ?_
      refine V.goto (tgt := 4) dX9_ofSlots_67 (by decide) ?_
      exact V.los [1, 2, 3, 0] rfl H10
    · have H11 := H5.2 c6
      refine V.iload_n dX9_ofSlots_21 rfl rfl ?_
      refine V.iload_n dX9_ofSlots_22 rfl rfl ?_
      refine V.iconst (v := (3)) dX9_ofSlots_23 (by decide) ?_
      refine V.icmp_ne (tgt := 36) dX9_ofSlots_24 (by decide) (fun c12 => ?_) (fun c12 => ?_)
      · have H13 := H11.1 c12
        refine V.iload_n dX9_ofSlots_36 rfl rfl ?_
        refine V.iconst (v := (4)) dX9_ofSlots_37 (by decide) ?_
        refine V.icmp_ne (tgt := 49) dX9_ofSlots_38 (by decide) (fun c14 => ?_) (fun c14 => ?_)
        · have H15 := H13.1 c14
          refine V.aload_n dX9_ofSlots_49 rfl rfl ?_
          refine V.iload_n dX9_ofSlots_50 rfl rfl ?_
          obtain ⟨r16, I17, L18, t19, H20⟩ := H15
          refine V.cVi (N := mr_X9_isWholeSlot) (as := [.int x3]) dX9_ofSlots_51 ml_X9_439 ok_X9_isWholeSlot okV_X9_isWholeSlot ⟨Nat.le_of_ble_eq_true rfl, Nat.le_of_ble_eq_true rfl⟩ h0.1 rfl rfl rfl (Nat.le_of_ble_eq_true rfl) t19 ?_
          refine V.if_eq (tgt := 61) dX9_ofSlots_54 (by decide) (fun c21 => ?_) (fun c21 => ?_)
          · have H22 := H20.1 c21
            refine V.iconst (v := (0)) dX9_ofSlots_61 (by decide) ?_
            refine V.iadd dX9_ofSlots_62 ?_
            refine V.topi (fun y23 e24 => ?_)
            have H25 := H22 y23 e24
            refine V.istore_n (lo' := [(2, .int y23), (0, .ref a0), (1, .int x1), (3, .int x3)]) dX9_ofSlots_63 rfl (by decide) rfl ?_
            obtain ⟨y26, e27⟩ : ∃ y : Int32, y = x3 + 1 := ⟨_, rfl⟩
            have H28 := H25 y26 e27
            refine V.iinc (v := y26) (lo' := [(3, .int y26), (2, .int y23), (0, .ref a0), (1, .int x1)]) dX9_ofSlots_64 rfl (by rw [e27]; rfl) (by decide) rfl ?_
            refine V.goto (tgt := 4) dX9_ofSlots_67 (by decide) ?_
            exact V.los [2, 3, 1, 0] rfl H28
          · have H29 := H20.2 c21
            refine V.iconst (v := (1)) dX9_ofSlots_57 (by decide) ?_
            refine V.goto (tgt := 62) dX9_ofSlots_58 (by decide) ?_
            refine V.iadd dX9_ofSlots_62 ?_
            refine V.topi (fun y30 e31 => ?_)
            have H32 := H29 y30 e31
            refine V.istore_n (lo' := [(2, .int y30), (0, .ref a0), (1, .int x1), (3, .int x3)]) dX9_ofSlots_63 rfl (by decide) rfl ?_
            obtain ⟨y33, e34⟩ : ∃ y : Int32, y = x3 + 1 := ⟨_, rfl⟩
            have H35 := H32 y33 e34
            refine V.iinc (v := y33) (lo' := [(3, .int y33), (2, .int y30), (0, .ref a0), (1, .int x1)]) dX9_ofSlots_64 rfl (by rw [e34]; rfl) (by decide) rfl ?_
            refine V.goto (tgt := 4) dX9_ofSlots_67 (by decide) ?_
            exact V.los [2, 3, 1, 0] rfl H35
        · have H36 := H13.2 c14
          refine V.aload_n dX9_ofSlots_41 rfl rfl ?_
          refine V.iload_n dX9_ofSlots_42 rfl rfl ?_
          obtain ⟨r37, I38, L39, t40, H41⟩ := H36
          refine V.cVi (N := mr_X9_letters) (as := [.int x3]) dX9_ofSlots_43 ml_X9_311 ok_X9_letters okV_X9_letters ⟨Nat.le_of_ble_eq_true rfl, Nat.le_of_ble_eq_true rfl⟩ h0.1 rfl rfl rfl (Nat.le_of_ble_eq_true rfl) t40 ?_
          refine V.goto (tgt := 62) dX9_ofSlots_46 (by decide) ?_
          refine V.iadd dX9_ofSlots_62 ?_
          refine V.topi (fun y42 e43 => ?_)
          have H44 := H41 y42 e43
          refine V.istore_n (lo' := [(2, .int y42), (0, .ref a0), (1, .int x1), (3, .int x3)]) dX9_ofSlots_63 rfl (by decide) rfl ?_
          obtain ⟨y45, e46⟩ : ∃ y : Int32, y = x3 + 1 := ⟨_, rfl⟩
          have H47 := H44 y45 e46
          refine V.iinc (v := y45) (lo' := [(3, .int y45), (2, .int y42), (0, .ref a0), (1, .int x1)]) dX9_ofSlots_64 rfl (by rw [e46]; rfl) (by decide) rfl ?_
          refine V.goto (tgt := 4) dX9_ofSlots_67 (by decide) ?_
          exact V.los [2, 3, 1, 0] rfl H47
      · have H48 := H11.2 c12
        refine V.aload_n dX9_ofSlots_27 rfl rfl ?_
        refine V.getf (v := .ref (a0 + 3)) dX9_ofSlots_28 fl_X9_17 h0.1 (by decide) rfl ?_
        refine V.iload_n dX9_ofSlots_31 rfl rfl ?_
        obtain ⟨o49, H50⟩ := H48
        refine V.iald dX9_ofSlots_32 h0.2.2.2.1 o49 ?_
        refine V.goto (tgt := 62) dX9_ofSlots_33 (by decide) ?_
        refine V.iadd dX9_ofSlots_62 ?_
        refine V.topi (fun y51 e52 => ?_)
        have H53 := H50 y51 e52
        refine V.istore_n (lo' := [(2, .int y51), (0, .ref a0), (1, .int x1), (3, .int x3)]) dX9_ofSlots_63 rfl (by decide) rfl ?_
        obtain ⟨y54, e55⟩ : ∃ y : Int32, y = x3 + 1 := ⟨_, rfl⟩
        have H56 := H53 y54 e55
        refine V.iinc (v := y54) (lo' := [(3, .int y54), (2, .int y51), (0, .ref a0), (1, .int x1)]) dX9_ofSlots_64 rfl (by rw [e55]; rfl) (by decide) rfl ?_
        refine V.goto (tgt := 4) dX9_ofSlots_67 (by decide) ?_
        exact V.los [2, 3, 1, 0] rfl H56
set_option maxRecDepth 100000 in
set_option maxHeartbeats 4000000 in
theorem wp_X9_ofSlots {S : List mjD} {RET : Option Value → mjH → Prop} {m : Nat} (hm : is_Model S m) {a : Int32} {I : Nat → Nat → Int32} {L : Nat → Nat → Int64} (H0 : hd_X9_ofSlots_4 S RET m a (0 : Int32) (0 : Int32) I L) : CT mr_X9_ofSlots (0, 0) [.ref m, .int a] (S, I, L) RET := by
  refine CT.of (lo := [(0, .ref m), (1, .int a)]) (by decide) (fun _ _ => Nat.le_of_ble_eq_true rfl) (fun _ _ => rfl) rfl ?_
  refine V.iconst (v := (0)) dX9_ofSlots_0 (by decide) ?_
  refine V.istore_n (lo' := [(2, .int (0 : Int32)), (0, .ref m), (1, .int a)]) dX9_ofSlots_1 rfl (by decide) rfl ?_
  refine V.iconst (v := (0)) dX9_ofSlots_2 (by decide) ?_
  refine V.istore_n (lo' := [(3, .int (0 : Int32)), (2, .int (0 : Int32)), (0, .ref m), (1, .int a)]) dX9_ofSlots_3 rfl (by decide) rfl ?_
  exact V.los [2, 3, 1, 0] rfl H0
set_option maxRecDepth 100000 in
set_option maxHeartbeats 4000000 in
theorem wp_X9_slotNow {S : List mjD} {RET : Option Value → mjH → Prop} {m : Nat} (hm : is_Model S m) {a : Int32} {b : Int32} {I : Nat → Nat → Int32} {L : Nat → Nat → Int64} (H0 : ∃ r1 I2 L3, CTi mr_X9_isFilled [.ref m, .int a] S I L r1 I2 L3 ∧ ((b = 0 → (vp_in a 4) ∧ RET (some (.int (I2 (m + 1) a.toNatClampNeg))) (S, I2, L3)) ∧ (b = 1 → (vp_in a 4) ∧ RET (some (.int (I2 (m + 3) a.toNatClampNeg))) (S, I2, L3)) ∧ (b = 2 → ((r1 = 0 → RET (some (.int (0 : Int32))) (S, I2, L3)) ∧ (¬ r1 = 0 → ∃ r18 I19 L20, CTi mr_X9_contentTold [.ref m, .int a] S I2 L3 r18 I19 L20 ∧ RET (some (.int r18)) (S, I19, L20)))) ∧ (b = 3 → ∃ r24 I25 L26, CTi mr_X9_letters [.ref m, .int a] S I2 L3 r24 I25 L26 ∧ RET (some (.int r24)) (S, I25, L26)) ∧ (b = 4 → ((r1 = 0 → RET (some (.int (0 : Int32))) (S, I2, L3)) ∧ (¬ r1 = 0 → ∃ r33 I34 L35, CTi mr_X9_factorsTold [.ref m, .int a, .int b] S I2 L3 r33 I34 L35 ∧ RET (some (.int r33)) (S, I34, L35)))) ∧ (b = 5 → ((r1 = 0 → RET (some (.int (0 : Int32))) (S, I2, L3)) ∧ (¬ r1 = 0 → ∃ r42 I43 L44, CTi mr_X9_factorsTold [.ref m, .int a, .int b] S I2 L3 r42 I43 L44 ∧ RET (some (.int r42)) (S, I43, L44)))) ∧ (b = 6 → ∃ r48 I49 L50, CTi mr_X9_sortsOf [.ref m, .int a] S I2 L3 r48 I49 L50 ∧ RET (some (.int r48)) (S, I49, L50)) ∧ (b = 7 → ∃ r54 I55 L56, CTi mr_X9_askOf [.ref m, .int a] S I2 L3 r54 I55 L56 ∧ RET (some (.int r54)) (S, I55, L56)) ∧ (b.toInt < 0 ∨ 7 < b.toInt → ((r1 = 0 → RET (some (.int (0 : Int32))) (S, I2, L3)) ∧ (¬ r1 = 0 → ∃ r63 I64 L65, CTi mr_X9_factorsTold [.ref m, .int a, .int b] S I2 L3 r63 I64 L65 ∧ RET (some (.int r63)) (S, I64, L65)))))) : CT mr_X9_slotNow (0, 0) [.ref m, .int a, .int b] (S, I, L) RET := by
  refine CT.of (lo := [(0, .ref m), (1, .int a), (2, .int b)]) (by decide) (fun _ _ => Nat.le_of_ble_eq_true rfl) (fun _ _ => rfl) rfl ?_
  refine V.aload_n dX9_slotNow_0 rfl rfl ?_
  refine V.iload_n dX9_slotNow_1 rfl rfl ?_
  obtain ⟨r1, I2, L3, t4, H5⟩ := H0
  refine V.cVi (N := mr_X9_isFilled) (as := [.int a]) dX9_slotNow_2 ml_X9_299 ok_X9_isFilled okV_X9_isFilled ⟨Nat.le_of_ble_eq_true rfl, Nat.le_of_ble_eq_true rfl⟩ hm.1 rfl rfl rfl (Nat.le_of_ble_eq_true rfl) t4 ?_
  refine V.istore_n (lo' := [(3, .int r1), (0, .ref m), (1, .int a), (2, .int b)]) dX9_slotNow_5 rfl (by decide) rfl ?_
  refine V.iload_n dX9_slotNow_6 rfl rfl ?_
  rcases mj_sw_0_7 b with c6 | c6 | c6 | c6 | c6 | c6 | c6 | c6 | c6
  · have H8 := H5.1 c6
    refine V.tableIn (off := 45) (tgt := 52) dX9_slotNow_7 (by rw [c6]; decide) (by rw [c6]; decide) (by rw [c6]; rfl) (by decide) ?_
    refine V.aload_n dX9_slotNow_52 rfl rfl ?_
    refine V.getf (v := .ref (m + 1)) dX9_slotNow_53 fl_X9_7 hm.1 (by decide) rfl ?_
    refine V.iload_n dX9_slotNow_56 rfl rfl ?_
    obtain ⟨o9, H10⟩ := H8
    refine V.iald dX9_slotNow_57 hm.2.1 o9 ?_
    exact V.ret (v := some (.int (I2 (m + 1) a.toNatClampNeg))) rfl (Or.inl ⟨_, rfl, dX9_slotNow_58, _, rfl, rfl⟩) ⟨Nat.le_refl _, Nat.le_refl _⟩ H10
  · have H11 := H5.2.1 c6
    refine V.tableIn (off := 52) (tgt := 59) dX9_slotNow_7 (by rw [c6]; decide) (by rw [c6]; decide) (by rw [c6]; rfl) (by decide) ?_
    refine V.aload_n dX9_slotNow_59 rfl rfl ?_
    refine V.getf (v := .ref (m + 3)) dX9_slotNow_60 fl_X9_17 hm.1 (by decide) rfl ?_
    refine V.iload_n dX9_slotNow_63 rfl rfl ?_
    obtain ⟨o12, H13⟩ := H11
    refine V.iald dX9_slotNow_64 hm.2.2.2.1 o12 ?_
    exact V.ret (v := some (.int (I2 (m + 3) a.toNatClampNeg))) rfl (Or.inl ⟨_, rfl, dX9_slotNow_65, _, rfl, rfl⟩) ⟨Nat.le_refl _, Nat.le_refl _⟩ H13
  · have H14 := H5.2.2.1 c6
    refine V.tableIn (off := 59) (tgt := 66) dX9_slotNow_7 (by rw [c6]; decide) (by rw [c6]; decide) (by rw [c6]; rfl) (by decide) ?_
    refine V.iload_n dX9_slotNow_66 rfl rfl ?_
    refine V.if_eq (tgt := 78) dX9_slotNow_67 (by decide) (fun c15 => ?_) (fun c15 => ?_)
    · have H16 := H14.1 c15
      refine V.iconst (v := (0)) dX9_slotNow_78 (by decide) ?_
      exact V.ret (v := some (.int (0 : Int32))) rfl (Or.inl ⟨_, rfl, dX9_slotNow_79, _, rfl, rfl⟩) ⟨Nat.le_refl _, Nat.le_refl _⟩ H16
    · have H17 := H14.2 c15
      refine V.aload_n dX9_slotNow_70 rfl rfl ?_
      refine V.iload_n dX9_slotNow_71 rfl rfl ?_
      obtain ⟨r18, I19, L20, t21, H22⟩ := H17
      refine V.cVi (N := mr_X9_contentTold) (as := [.int a]) dX9_slotNow_72 ml_X9_308 ok_X9_contentTold okV_X9_contentTold ⟨Nat.le_of_ble_eq_true rfl, Nat.le_of_ble_eq_true rfl⟩ hm.1 rfl rfl rfl (Nat.le_of_ble_eq_true rfl) t21 ?_
      refine V.goto (tgt := 79) dX9_slotNow_75 (by decide) ?_
      exact V.ret (v := some (.int r18)) rfl (Or.inl ⟨_, rfl, dX9_slotNow_79, _, rfl, rfl⟩) ⟨Nat.le_refl _, Nat.le_refl _⟩ H22
  · have H23 := H5.2.2.2.1 c6
    refine V.tableIn (off := 73) (tgt := 80) dX9_slotNow_7 (by rw [c6]; decide) (by rw [c6]; decide) (by rw [c6]; rfl) (by decide) ?_
    refine V.aload_n dX9_slotNow_80 rfl rfl ?_
    refine V.iload_n dX9_slotNow_81 rfl rfl ?_
    obtain ⟨r24, I25, L26, t27, H28⟩ := H23
    refine V.cVi (N := mr_X9_letters) (as := [.int a]) dX9_slotNow_82 ml_X9_311 ok_X9_letters okV_X9_letters ⟨Nat.le_of_ble_eq_true rfl, Nat.le_of_ble_eq_true rfl⟩ hm.1 rfl rfl rfl (Nat.le_of_ble_eq_true rfl) t27 ?_
    exact V.ret (v := some (.int r24)) rfl (Or.inl ⟨_, rfl, dX9_slotNow_85, _, rfl, rfl⟩) ⟨Nat.le_refl _, Nat.le_refl _⟩ H28
  · have H29 := H5.2.2.2.2.1 c6
    refine V.tableIn (off := 91) (tgt := 98) dX9_slotNow_7 (by rw [c6]; decide) (by rw [c6]; decide) (by rw [c6]; rfl) (by decide) ?_
    refine V.iload_n dX9_slotNow_98 rfl rfl ?_
    refine V.if_eq (tgt := 111) dX9_slotNow_99 (by decide) (fun c30 => ?_) (fun c30 => ?_)
    · have H31 := H29.1 c30
      refine V.iconst (v := (0)) dX9_slotNow_111 (by decide) ?_
      exact V.ret (v := some (.int (0 : Int32))) rfl (Or.inl ⟨_, rfl, dX9_slotNow_112, _, rfl, rfl⟩) ⟨Nat.le_refl _, Nat.le_refl _⟩ H31
    · have H32 := H29.2 c30
      refine V.aload_n dX9_slotNow_102 rfl rfl ?_
      refine V.iload_n dX9_slotNow_103 rfl rfl ?_
      refine V.iload_n dX9_slotNow_104 rfl rfl ?_
      obtain ⟨r33, I34, L35, t36, H37⟩ := H32
      refine V.cVi (N := mr_X9_factorsTold) (as := [.int a, .int b]) dX9_slotNow_105 ml_X9_320 ok_X9_factorsTold okV_X9_factorsTold ⟨Nat.le_of_ble_eq_true rfl, Nat.le_of_ble_eq_true rfl⟩ hm.1 rfl rfl rfl (Nat.le_of_ble_eq_true rfl) t36 ?_
      refine V.goto (tgt := 112) dX9_slotNow_108 (by decide) ?_
      exact V.ret (v := some (.int r33)) rfl (Or.inl ⟨_, rfl, dX9_slotNow_112, _, rfl, rfl⟩) ⟨Nat.le_refl _, Nat.le_refl _⟩ H37
  · have H38 := H5.2.2.2.2.2.1 c6
    refine V.tableIn (off := 91) (tgt := 98) dX9_slotNow_7 (by rw [c6]; decide) (by rw [c6]; decide) (by rw [c6]; rfl) (by decide) ?_
    refine V.iload_n dX9_slotNow_98 rfl rfl ?_
    refine V.if_eq (tgt := 111) dX9_slotNow_99 (by decide) (fun c39 => ?_) (fun c39 => ?_)
    · have H40 := H38.1 c39
      refine V.iconst (v := (0)) dX9_slotNow_111 (by decide) ?_
      exact V.ret (v := some (.int (0 : Int32))) rfl (Or.inl ⟨_, rfl, dX9_slotNow_112, _, rfl, rfl⟩) ⟨Nat.le_refl _, Nat.le_refl _⟩ H40
    · have H41 := H38.2 c39
      refine V.aload_n dX9_slotNow_102 rfl rfl ?_
      refine V.iload_n dX9_slotNow_103 rfl rfl ?_
      refine V.iload_n dX9_slotNow_104 rfl rfl ?_
      obtain ⟨r42, I43, L44, t45, H46⟩ := H41
      refine V.cVi (N := mr_X9_factorsTold) (as := [.int a, .int b]) dX9_slotNow_105 ml_X9_320 ok_X9_factorsTold okV_X9_factorsTold ⟨Nat.le_of_ble_eq_true rfl, Nat.le_of_ble_eq_true rfl⟩ hm.1 rfl rfl rfl (Nat.le_of_ble_eq_true rfl) t45 ?_
      refine V.goto (tgt := 112) dX9_slotNow_108 (by decide) ?_
      exact V.ret (v := some (.int r42)) rfl (Or.inl ⟨_, rfl, dX9_slotNow_112, _, rfl, rfl⟩) ⟨Nat.le_refl _, Nat.le_refl _⟩ H46
  · have H47 := H5.2.2.2.2.2.2.1 c6
    refine V.tableIn (off := 79) (tgt := 86) dX9_slotNow_7 (by rw [c6]; decide) (by rw [c6]; decide) (by rw [c6]; rfl) (by decide) ?_
    refine V.aload_n dX9_slotNow_86 rfl rfl ?_
    refine V.iload_n dX9_slotNow_87 rfl rfl ?_
    obtain ⟨r48, I49, L50, t51, H52⟩ := H47
    refine V.cVi (N := mr_X9_sortsOf) (as := [.int a]) dX9_slotNow_88 ml_X9_314 ok_X9_sortsOf okV_X9_sortsOf ⟨Nat.le_of_ble_eq_true rfl, Nat.le_of_ble_eq_true rfl⟩ hm.1 rfl rfl rfl (Nat.le_of_ble_eq_true rfl) t51 ?_
    exact V.ret (v := some (.int r48)) rfl (Or.inl ⟨_, rfl, dX9_slotNow_91, _, rfl, rfl⟩) ⟨Nat.le_refl _, Nat.le_refl _⟩ H52
  · have H53 := H5.2.2.2.2.2.2.2.1 c6
    refine V.tableIn (off := 85) (tgt := 92) dX9_slotNow_7 (by rw [c6]; decide) (by rw [c6]; decide) (by rw [c6]; rfl) (by decide) ?_
    refine V.aload_n dX9_slotNow_92 rfl rfl ?_
    refine V.iload_n dX9_slotNow_93 rfl rfl ?_
    obtain ⟨r54, I55, L56, t57, H58⟩ := H53
    refine V.cVi (N := mr_X9_askOf) (as := [.int a]) dX9_slotNow_94 ml_X9_317 ok_X9_askOf okV_X9_askOf ⟨Nat.le_of_ble_eq_true rfl, Nat.le_of_ble_eq_true rfl⟩ hm.1 rfl rfl rfl (Nat.le_of_ble_eq_true rfl) t57 ?_
    exact V.ret (v := some (.int r54)) rfl (Or.inl ⟨_, rfl, dX9_slotNow_97, _, rfl, rfl⟩) ⟨Nat.le_refl _, Nat.le_refl _⟩ H58
  · have H59 := H5.2.2.2.2.2.2.2.2 c6
    refine V.tableOut (tgt := 98) dX9_slotNow_7 c6 (by decide) ?_
    refine V.iload_n dX9_slotNow_98 rfl rfl ?_
    refine V.if_eq (tgt := 111) dX9_slotNow_99 (by decide) (fun c60 => ?_) (fun c60 => ?_)
    · have H61 := H59.1 c60
      refine V.iconst (v := (0)) dX9_slotNow_111 (by decide) ?_
      exact V.ret (v := some (.int (0 : Int32))) rfl (Or.inl ⟨_, rfl, dX9_slotNow_112, _, rfl, rfl⟩) ⟨Nat.le_refl _, Nat.le_refl _⟩ H61
    · have H62 := H59.2 c60
      refine V.aload_n dX9_slotNow_102 rfl rfl ?_
      refine V.iload_n dX9_slotNow_103 rfl rfl ?_
      refine V.iload_n dX9_slotNow_104 rfl rfl ?_
      obtain ⟨r63, I64, L65, t66, H67⟩ := H62
      refine V.cVi (N := mr_X9_factorsTold) (as := [.int a, .int b]) dX9_slotNow_105 ml_X9_320 ok_X9_factorsTold okV_X9_factorsTold ⟨Nat.le_of_ble_eq_true rfl, Nat.le_of_ble_eq_true rfl⟩ hm.1 rfl rfl rfl (Nat.le_of_ble_eq_true rfl) t66 ?_
      refine V.goto (tgt := 112) dX9_slotNow_108 (by decide) ?_
      exact V.ret (v := some (.int r63)) rfl (Or.inl ⟨_, rfl, dX9_slotNow_112, _, rfl, rfl⟩) ⟨Nat.le_refl _, Nat.le_refl _⟩ H67
set_option maxRecDepth 100000 in
set_option maxHeartbeats 4000000 in
theorem wp_X9_drawn {S : List mjD} {RET : Option Value → mjH → Prop} {m : Nat} (hm : is_Model S m) {a : Int32} {b : Int32} {c : Int32} {I : Nat → Nat → Int32} {L : Nat → Nat → Int64} (H0 : ∃ r1 I2 L3, CTi mr_X9_within [.long a.toInt64, .long (1 : Int64), .long (4 : Int64)] S I L r1 I2 L3 ∧ ((r1 = 0 → RET (some (.int (-102 : Int32))) (S, I2, L3)) ∧ (¬ r1 = 0 → ((b < 0 → RET (some (.int (-102 : Int32))) (S, I2, L3)) ∧ (¬ b < 0 → ∃ r12 I13 L14, CTi mr_X9_within [.long c.toInt64, .long (0 : Int64), .long (2 : Int64)] S I2 L3 r12 I13 L14 ∧ ((¬ r12 = 0 → ∃ r19 I20 L21, CTi mr_X9_drawnNow [.ref m, .int a, .int b, .int c] S I13 L14 r19 I20 L21 ∧ RET (some (.int r19)) (S, I20, L21)) ∧ (r12 = 0 → RET (some (.int (-102 : Int32))) (S, I13, L14)))))))) : CT mr_X9_drawn (0, 0) [.ref m, .int a, .int b, .int c] (S, I, L) RET := by
  refine CT.of (lo := [(0, .ref m), (1, .int a), (2, .int b), (3, .int c)]) (by decide) (fun _ _ => Nat.le_of_ble_eq_true rfl) (fun _ _ => rfl) rfl ?_
  refine V.iload_n dX9_drawn_0 rfl rfl ?_
  refine V.i2l dX9_drawn_1 ?_
  refine V.lconst (v := 1) dX9_drawn_2 (by decide) ?_
  refine V.ldc2 kc_X9_163 dX9_drawn_3 ?_
  obtain ⟨r1, I2, L3, t4, H5⟩ := H0
  refine V.cSi (N := mr_X9_within) (as := [.long a.toInt64, .long (1 : Int64), .long (4 : Int64)]) dX9_drawn_6 ml_X9_116 ok_X9_within okS_X9_within ⟨Nat.le_of_ble_eq_true rfl, Nat.le_of_ble_eq_true rfl⟩ rfl rfl (Nat.le_of_ble_eq_true rfl) t4 ?_
  refine V.if_eq (tgt := 28) dX9_drawn_9 (by decide) (fun c6 => ?_) (fun c6 => ?_)
  · have H7 := H5.1 c6
    refine V.bipush (v := (-102)) dX9_drawn_28 (by decide) ?_
    refine V.goto (tgt := 40) dX9_drawn_30 (by decide) ?_
    exact V.ret (v := some (.int (-102 : Int32))) rfl (Or.inl ⟨_, rfl, dX9_drawn_40, _, rfl, rfl⟩) ⟨Nat.le_refl _, Nat.le_refl _⟩ H7
  · have H8 := H5.2 c6
    refine V.iload_n dX9_drawn_12 rfl rfl ?_
    refine V.if_lt (tgt := 28) dX9_drawn_13 (by decide) (fun c9 => ?_) (fun c9 => ?_)
    · have H10 := H8.1 c9
      refine V.bipush (v := (-102)) dX9_drawn_28 (by decide) ?_
      refine V.goto (tgt := 40) dX9_drawn_30 (by decide) ?_
      exact V.ret (v := some (.int (-102 : Int32))) rfl (Or.inl ⟨_, rfl, dX9_drawn_40, _, rfl, rfl⟩) ⟨Nat.le_refl _, Nat.le_refl _⟩ H10
    · have H11 := H8.2 c9
      refine V.iload_n dX9_drawn_16 rfl rfl ?_
      refine V.i2l dX9_drawn_17 ?_
      refine V.lconst (v := 0) dX9_drawn_18 (by decide) ?_
      refine V.ldc2 kc_X9_422 dX9_drawn_19 ?_
      obtain ⟨r12, I13, L14, t15, H16⟩ := H11
      refine V.cSi (N := mr_X9_within) (as := [.long c.toInt64, .long (0 : Int64), .long (2 : Int64)]) dX9_drawn_22 ml_X9_116 ok_X9_within okS_X9_within ⟨Nat.le_of_ble_eq_true rfl, Nat.le_of_ble_eq_true rfl⟩ rfl rfl (Nat.le_of_ble_eq_true rfl) t15 ?_
      refine V.if_ne (tgt := 33) dX9_drawn_25 (by decide) (fun c17 => ?_) (fun c17 => ?_)
      · have H18 := H16.1 c17
        refine V.aload_n dX9_drawn_33 rfl rfl ?_
        refine V.iload_n dX9_drawn_34 rfl rfl ?_
        refine V.iload_n dX9_drawn_35 rfl rfl ?_
        refine V.iload_n dX9_drawn_36 rfl rfl ?_
        obtain ⟨r19, I20, L21, t22, H23⟩ := H18
        refine V.cVi (N := mr_X9_drawnNow) (as := [.int a, .int b, .int c]) dX9_drawn_37 ml_X9_424 ok_X9_drawnNow okV_X9_drawnNow ⟨Nat.le_of_ble_eq_true rfl, Nat.le_of_ble_eq_true rfl⟩ hm.1 rfl rfl rfl (Nat.le_of_ble_eq_true rfl) t22 ?_
        exact V.ret (v := some (.int r19)) rfl (Or.inl ⟨_, rfl, dX9_drawn_40, _, rfl, rfl⟩) ⟨Nat.le_refl _, Nat.le_refl _⟩ H23
      · have H24 := H16.2 c17
        refine V.bipush (v := (-102)) dX9_drawn_28 (by decide) ?_
        refine V.goto (tgt := 40) dX9_drawn_30 (by decide) ?_
        exact V.ret (v := some (.int (-102 : Int32))) rfl (Or.inl ⟨_, rfl, dX9_drawn_40, _, rfl, rfl⟩) ⟨Nat.le_refl _, Nat.le_refl _⟩ H24
def hd_X9_keep_32 (S : List mjD) (RET : Option Value → mjH → Prop) (a0 : Nat) (x1 : Int32) (x2 : Int32) (I : Nat → Nat → Int32) (L : Nat → Nat → Int64) : Prop := V mr_X9_keep (0, 0) RET 32 [(0, .ref a0), (1, .int x1), (2, .int x2)] [] (S, I, L) (0, 0)
set_option maxRecDepth 100000 in
set_option maxHeartbeats 4000000 in
theorem it_X9_keep_32 {S : List mjD} {RET : Option Value → mjH → Prop} {a0 : Nat} (h0 : is_Model S a0) {x1 : Int32} {x2 : Int32} {I : Nat → Nat → Int32} {L : Nat → Nat → Int64} (H0 : (((6 : Int32) ≤ x2 → ∃ r26 I27 L28, CTi mr_X9_degreeNow [.ref a0] S I L r26 I27 L28 ∧ (vp_in x1 4) ∧ (vp_in x1 4) ∧ RET (some (.int ((mj_up I27 (a0 + 3) x1.toNatClampNeg r26) (a0 + 3) x1.toNatClampNeg))) (S, mj_up I27 (a0 + 3) x1.toNatClampNeg r26, L28)) ∧ (¬ (6 : Int32) ≤ x2 → (vp_in x2 6) ∧ (vp_in (((6 : Int32) * x1) + x2) 24) ∧ ∀ y40 : Int32, y40 = x2 + 1 → hd_X9_keep_32 S RET a0 x1 y40 I (mj_up L (a0 + 2) (((6 : Int32) * x1) + x2).toNatClampNeg (L (a0 + 10) x2.toNatClampNeg))))) : hd_X9_keep_32 S RET a0 x1 x2 I L := by
  unfold hd_X9_keep_32
  refine V.iload_n dX9_keep_32 rfl rfl ?_
  refine V.bipush (v := (6)) dX9_keep_33 (by decide) ?_
  refine V.icmp_ge (tgt := 61) dX9_keep_35 (by decide) (fun c24 => ?_) (fun c24 => ?_)
  · have H25 := H0.1 c24
    refine V.aload_n dX9_keep_61 rfl rfl ?_
    refine V.getf (v := .ref (a0 + 3)) dX9_keep_62 fl_X9_17 h0.1 (by decide) rfl ?_
    refine V.iload_n dX9_keep_65 rfl rfl ?_
    refine V.aload_n dX9_keep_66 rfl rfl ?_
    obtain ⟨r26, I27, L28, t29, H30⟩ := H25
    refine V.cVi (N := mr_X9_degreeNow) (as := []) dX9_keep_67 ml_X9_234 ok_X9_degreeNow okV_X9_degreeNow ⟨Nat.le_of_ble_eq_true rfl, Nat.le_of_ble_eq_true rfl⟩ h0.1 rfl rfl rfl (Nat.le_of_ble_eq_true rfl) t29 ?_
    obtain ⟨o31, H32⟩ := H30
    refine V.iast dX9_keep_70 h0.2.2.2.1 o31 ?_
    refine V.aload_n dX9_keep_71 rfl rfl ?_
    refine V.getf (v := .ref (a0 + 3)) dX9_keep_72 fl_X9_17 h0.1 (by decide) rfl ?_
    refine V.iload_n dX9_keep_75 rfl rfl ?_
    obtain ⟨o33, H34⟩ := H32
    refine V.iald dX9_keep_76 h0.2.2.2.1 o33 ?_
    exact V.ret (v := some (.int ((mj_up I27 (a0 + 3) x1.toNatClampNeg r26) (a0 + 3) x1.toNatClampNeg))) rfl (Or.inl ⟨_, rfl, dX9_keep_77, _, rfl, rfl⟩) ⟨Nat.le_refl _, Nat.le_refl _⟩ H34
  · have H35 := H0.2 c24
    refine V.aload_n dX9_keep_38 rfl rfl ?_
    refine V.getf (v := .ref (a0 + 2)) dX9_keep_39 fl_X9_13 h0.1 (by decide) rfl ?_
    refine V.bipush (v := (6)) dX9_keep_42 (by decide) ?_
    refine V.iload_n dX9_keep_44 rfl rfl ?_
    refine V.imul dX9_keep_45 ?_
    refine V.iload_n dX9_keep_46 rfl rfl ?_
    refine V.iadd dX9_keep_47 ?_
    refine V.aload_n dX9_keep_48 rfl rfl ?_
    refine V.getf (v := .ref (a0 + 10)) dX9_keep_49 fl_X9_39 h0.1 (by decide) rfl ?_
    refine V.iload_n dX9_keep_52 rfl rfl ?_
    obtain ⟨o36, H37⟩ := H35
    refine V.lald dX9_keep_53 h0.2.2.2.2.2.2.2.2.2.2.1 o36 ?_
    obtain ⟨o38, H39⟩ := H37
    refine V.last dX9_keep_54 h0.2.2.1 o38 ?_
    obtain ⟨y40, e41⟩ : ∃ y : Int32, y = x2 + 1 := ⟨_, rfl⟩
    have H42 := H39 y40 e41
    refine V.iinc (v := y40) (lo' := [(2, .int y40), (0, .ref a0), (1, .int x1)]) dX9_keep_55 rfl (by rw [e41]; rfl) (by decide) rfl ?_
    refine V.goto (tgt := 32) dX9_keep_58 (by decide) ?_
    exact V.los [1, 2, 0] rfl H42
set_option maxRecDepth 100000 in
set_option maxHeartbeats 4000000 in
theorem wp_X9_keep {S : List mjD} {RET : Option Value → mjH → Prop} {m : Nat} (hm : is_Model S m) {a : Int32} {I : Nat → Nat → Int32} {L : Nat → Nat → Int64} (H0 : ∃ r1 I2 L3, CTi mr_X9_isGreat [.ref m] S I L r1 I2 L3 ∧ ((r1 = 0 → (vp_in a 4) ∧ ∃ I11 L12, CTv mr_X9_makeBy [.ref m, .int (I2 (m + 1) a.toNatClampNeg)] S I2 L3 I11 L12 ∧ ∃ r15 I16 L17, CTi mr_X9_isGreat [.ref m] S I11 L12 r15 I16 L17 ∧ ((r15 = 0 → hd_X9_keep_32 S RET m a (0 : Int32) I16 L17) ∧ (¬ r15 = 0 → RET (some (.int (-104 : Int32))) (S, I16, L17)))) ∧ (¬ r1 = 0 → RET (some (.int (-104 : Int32))) (S, I2, L3)))) : CT mr_X9_keep (0, 0) [.ref m, .int a] (S, I, L) RET := by
  refine CT.of (lo := [(0, .ref m), (1, .int a)]) (by decide) (fun _ _ => Nat.le_of_ble_eq_true rfl) (fun _ _ => rfl) rfl ?_
  refine V.aload_n dX9_keep_0 rfl rfl ?_
  obtain ⟨r1, I2, L3, t4, H5⟩ := H0
  refine V.cVi (N := mr_X9_isGreat) (as := []) dX9_keep_1 ml_X9_274 ok_X9_isGreat okV_X9_isGreat ⟨Nat.le_of_ble_eq_true rfl, Nat.le_of_ble_eq_true rfl⟩ hm.1 rfl rfl rfl (Nat.le_of_ble_eq_true rfl) t4 ?_
  refine V.if_eq (tgt := 10) dX9_keep_4 (by decide) (fun c6 => ?_) (fun c6 => ?_)
  · have H7 := H5.1 c6
    refine V.aload_n dX9_keep_10 rfl rfl ?_
    refine V.aload_n dX9_keep_11 rfl rfl ?_
    refine V.getf (v := .ref (m + 1)) dX9_keep_12 fl_X9_7 hm.1 (by decide) rfl ?_
    refine V.iload_n dX9_keep_15 rfl rfl ?_
    obtain ⟨o8, H9⟩ := H7
    refine V.iald dX9_keep_16 hm.2.1 o8 ?_
    obtain ⟨I11, L12, t13, H14⟩ := H9
    refine V.cVv (N := mr_X9_makeBy) (as := [.int (I2 (m + 1) a.toNatClampNeg)]) dX9_keep_17 ml_X9_277 ok_X9_makeBy okV_X9_makeBy ⟨Nat.le_of_ble_eq_true rfl, Nat.le_of_ble_eq_true rfl⟩ hm.1 rfl rfl rfl (Nat.le_of_ble_eq_true rfl) t13 ?_
    refine V.aload_n dX9_keep_20 rfl rfl ?_
    obtain ⟨r15, I16, L17, t18, H19⟩ := H14
    refine V.cVi (N := mr_X9_isGreat) (as := []) dX9_keep_21 ml_X9_274 ok_X9_isGreat okV_X9_isGreat ⟨Nat.le_of_ble_eq_true rfl, Nat.le_of_ble_eq_true rfl⟩ hm.1 rfl rfl rfl (Nat.le_of_ble_eq_true rfl) t18 ?_
    refine V.if_eq (tgt := 30) dX9_keep_24 (by decide) (fun c20 => ?_) (fun c20 => ?_)
    · have H21 := H19.1 c20
      refine V.iconst (v := (0)) dX9_keep_30 (by decide) ?_
      refine V.istore_n (lo' := [(2, .int (0 : Int32)), (0, .ref m), (1, .int a)]) dX9_keep_31 rfl (by decide) rfl ?_
      exact V.los [1, 2, 0] rfl H21
    · have H22 := H19.2 c20
      refine V.bipush (v := (-104)) dX9_keep_27 (by decide) ?_
      exact V.ret (v := some (.int (-104 : Int32))) rfl (Or.inl ⟨_, rfl, dX9_keep_29, _, rfl, rfl⟩) ⟨Nat.le_refl _, Nat.le_refl _⟩ H22
  · have H23 := H5.2 c6
    refine V.bipush (v := (-104)) dX9_keep_7 (by decide) ?_
    exact V.ret (v := some (.int (-104 : Int32))) rfl (Or.inl ⟨_, rfl, dX9_keep_9, _, rfl, rfl⟩) ⟨Nat.le_refl _, Nat.le_refl _⟩ H23
set_option maxRecDepth 100000 in
set_option maxHeartbeats 4000000 in
theorem wp_X9_howMany {S : List mjD} {RET : Option Value → mjH → Prop} {m : Nat} (hm : is_Model S m) {a : Int32} {I : Nat → Nat → Int32} {L : Nat → Nat → Int64} (H0 : ((a = 0 → RET (some (.int (I m 1))) (S, I, L)) ∧ (a = 1 → ∃ r5 I6 L7, CTi mr_X9_filled [.ref m] S I L r5 I6 L7 ∧ RET (some (.int r5)) (S, I6, L7)) ∧ (a = 2 → ∃ r11 I12 L13, CTi mr_X9_ofSlots [.ref m, .int a] S I L r11 I12 L13 ∧ RET (some (.int r11)) (S, I12, L13)) ∧ (a = 3 → ∃ r17 I18 L19, CTi mr_X9_ofSlots [.ref m, .int a] S I L r17 I18 L19 ∧ RET (some (.int r17)) (S, I18, L19)) ∧ (a = 4 → ∃ r23 I24 L25, CTi mr_X9_ofSlots [.ref m, .int a] S I L r23 I24 L25 ∧ RET (some (.int r23)) (S, I24, L25)) ∧ (a = 5 → RET (some (.int (I m 5))) (S, I, L)) ∧ (a = 6 → RET (some (.int (I m 9))) (S, I, L)) ∧ (a = 7 → RET (some (.int (I m 0))) (S, I, L)) ∧ (a.toInt < 0 ∨ 7 < a.toInt → RET (some (.int (-102 : Int32))) (S, I, L)))) : CT mr_X9_howMany (0, 0) [.ref m, .int a] (S, I, L) RET := by
  refine CT.of (lo := [(0, .ref m), (1, .int a)]) (by decide) (fun _ _ => Nat.le_of_ble_eq_true rfl) (fun _ _ => rfl) rfl ?_
  refine V.iload_n dX9_howMany_0 rfl rfl ?_
  rcases mj_sw_0_7 a with c1 | c1 | c1 | c1 | c1 | c1 | c1 | c1 | c1
  · have H3 := H0.1 c1
    refine V.tableIn (off := 47) (tgt := 48) dX9_howMany_1 (by rw [c1]; decide) (by rw [c1]; decide) (by rw [c1]; rfl) (by decide) ?_
    refine V.aload_n dX9_howMany_48 rfl rfl ?_
    refine V.getf (v := .int (I m 1)) dX9_howMany_49 fl_X9_168 hm.1 (by decide) rfl ?_
    exact V.ret (v := some (.int (I m 1))) rfl (Or.inl ⟨_, rfl, dX9_howMany_52, _, rfl, rfl⟩) ⟨Nat.le_refl _, Nat.le_refl _⟩ H3
  · have H4 := H0.2.1 c1
    refine V.tableIn (off := 52) (tgt := 53) dX9_howMany_1 (by rw [c1]; decide) (by rw [c1]; decide) (by rw [c1]; rfl) (by decide) ?_
    refine V.aload_n dX9_howMany_53 rfl rfl ?_
    obtain ⟨r5, I6, L7, t8, H9⟩ := H4
    refine V.cVi (N := mr_X9_filled) (as := []) dX9_howMany_54 ml_X9_436 ok_X9_filled okV_X9_filled ⟨Nat.le_of_ble_eq_true rfl, Nat.le_of_ble_eq_true rfl⟩ hm.1 rfl rfl rfl (Nat.le_of_ble_eq_true rfl) t8 ?_
    exact V.ret (v := some (.int r5)) rfl (Or.inl ⟨_, rfl, dX9_howMany_57, _, rfl, rfl⟩) ⟨Nat.le_refl _, Nat.le_refl _⟩ H9
  · have H10 := H0.2.2.1 c1
    refine V.tableIn (off := 57) (tgt := 58) dX9_howMany_1 (by rw [c1]; decide) (by rw [c1]; decide) (by rw [c1]; rfl) (by decide) ?_
    refine V.aload_n dX9_howMany_58 rfl rfl ?_
    refine V.iload_n dX9_howMany_59 rfl rfl ?_
    obtain ⟨r11, I12, L13, t14, H15⟩ := H10
    refine V.cVi (N := mr_X9_ofSlots) (as := [.int a]) dX9_howMany_60 ml_X9_442 ok_X9_ofSlots okV_X9_ofSlots ⟨Nat.le_of_ble_eq_true rfl, Nat.le_of_ble_eq_true rfl⟩ hm.1 rfl rfl rfl (Nat.le_of_ble_eq_true rfl) t14 ?_
    exact V.ret (v := some (.int r11)) rfl (Or.inl ⟨_, rfl, dX9_howMany_63, _, rfl, rfl⟩) ⟨Nat.le_refl _, Nat.le_refl _⟩ H15
  · have H16 := H0.2.2.2.1 c1
    refine V.tableIn (off := 57) (tgt := 58) dX9_howMany_1 (by rw [c1]; decide) (by rw [c1]; decide) (by rw [c1]; rfl) (by decide) ?_
    refine V.aload_n dX9_howMany_58 rfl rfl ?_
    refine V.iload_n dX9_howMany_59 rfl rfl ?_
    obtain ⟨r17, I18, L19, t20, H21⟩ := H16
    refine V.cVi (N := mr_X9_ofSlots) (as := [.int a]) dX9_howMany_60 ml_X9_442 ok_X9_ofSlots okV_X9_ofSlots ⟨Nat.le_of_ble_eq_true rfl, Nat.le_of_ble_eq_true rfl⟩ hm.1 rfl rfl rfl (Nat.le_of_ble_eq_true rfl) t20 ?_
    exact V.ret (v := some (.int r17)) rfl (Or.inl ⟨_, rfl, dX9_howMany_63, _, rfl, rfl⟩) ⟨Nat.le_refl _, Nat.le_refl _⟩ H21
  · have H22 := H0.2.2.2.2.1 c1
    refine V.tableIn (off := 57) (tgt := 58) dX9_howMany_1 (by rw [c1]; decide) (by rw [c1]; decide) (by rw [c1]; rfl) (by decide) ?_
    refine V.aload_n dX9_howMany_58 rfl rfl ?_
    refine V.iload_n dX9_howMany_59 rfl rfl ?_
    obtain ⟨r23, I24, L25, t26, H27⟩ := H22
    refine V.cVi (N := mr_X9_ofSlots) (as := [.int a]) dX9_howMany_60 ml_X9_442 ok_X9_ofSlots okV_X9_ofSlots ⟨Nat.le_of_ble_eq_true rfl, Nat.le_of_ble_eq_true rfl⟩ hm.1 rfl rfl rfl (Nat.le_of_ble_eq_true rfl) t26 ?_
    exact V.ret (v := some (.int r23)) rfl (Or.inl ⟨_, rfl, dX9_howMany_63, _, rfl, rfl⟩) ⟨Nat.le_refl _, Nat.le_refl _⟩ H27
  · have H28 := H0.2.2.2.2.2.1 c1
    refine V.tableIn (off := 63) (tgt := 64) dX9_howMany_1 (by rw [c1]; decide) (by rw [c1]; decide) (by rw [c1]; rfl) (by decide) ?_
    refine V.aload_n dX9_howMany_64 rfl rfl ?_
    refine V.getf (v := .int (I m 5)) dX9_howMany_65 fl_X9_174 hm.1 (by decide) rfl ?_
    exact V.ret (v := some (.int (I m 5))) rfl (Or.inl ⟨_, rfl, dX9_howMany_68, _, rfl, rfl⟩) ⟨Nat.le_refl _, Nat.le_refl _⟩ H28
  · have H29 := H0.2.2.2.2.2.2.1 c1
    refine V.tableIn (off := 68) (tgt := 69) dX9_howMany_1 (by rw [c1]; decide) (by rw [c1]; decide) (by rw [c1]; rfl) (by decide) ?_
    refine V.aload_n dX9_howMany_69 rfl rfl ?_
    refine V.getf (v := .int (I m 9)) dX9_howMany_70 fl_X9_120 hm.1 (by decide) rfl ?_
    exact V.ret (v := some (.int (I m 9))) rfl (Or.inl ⟨_, rfl, dX9_howMany_73, _, rfl, rfl⟩) ⟨Nat.le_refl _, Nat.le_refl _⟩ H29
  · have H30 := H0.2.2.2.2.2.2.2.1 c1
    refine V.tableIn (off := 73) (tgt := 74) dX9_howMany_1 (by rw [c1]; decide) (by rw [c1]; decide) (by rw [c1]; rfl) (by decide) ?_
    refine V.aload_n dX9_howMany_74 rfl rfl ?_
    refine V.getf (v := .int (I m 0)) dX9_howMany_75 fl_X9_171 hm.1 (by decide) rfl ?_
    exact V.ret (v := some (.int (I m 0))) rfl (Or.inl ⟨_, rfl, dX9_howMany_78, _, rfl, rfl⟩) ⟨Nat.le_refl _, Nat.le_refl _⟩ H30
  · have H31 := H0.2.2.2.2.2.2.2.2 c1
    refine V.tableOut (tgt := 79) dX9_howMany_1 c1 (by decide) ?_
    refine V.bipush (v := (-102)) dX9_howMany_79 (by decide) ?_
    exact V.ret (v := some (.int (-102 : Int32))) rfl (Or.inl ⟨_, rfl, dX9_howMany_81, _, rfl, rfl⟩) ⟨Nat.le_refl _, Nat.le_refl _⟩ H31
set_option maxRecDepth 100000 in
set_option maxHeartbeats 4000000 in
theorem wp_X9_slot {S : List mjD} {RET : Option Value → mjH → Prop} {m : Nat} (hm : is_Model S m) {a : Int32} {b : Int32} {I : Nat → Nat → Int32} {L : Nat → Nat → Int64} (H0 : ∃ r1 I2 L3, CTi mr_X9_isSlot [.ref m, .int a] S I L r1 I2 L3 ∧ ((¬ r1 = 0 → ∃ r8 I9 L10, CTi mr_X9_within [.long b.toInt64, .long (0 : Int64), .long (7 : Int64)] S I2 L3 r8 I9 L10 ∧ ((r8 = 0 → RET (some (.int (-102 : Int32))) (S, I9, L10)) ∧ (¬ r8 = 0 → ∃ r16 I17 L18, CTi mr_X9_slotNow [.ref m, .int a, .int b] S I9 L10 r16 I17 L18 ∧ RET (some (.int r16)) (S, I17, L18)))) ∧ (r1 = 0 → RET (some (.int (-101 : Int32))) (S, I2, L3)))) : CT mr_X9_slot (0, 0) [.ref m, .int a, .int b] (S, I, L) RET := by
  refine CT.of (lo := [(0, .ref m), (1, .int a), (2, .int b)]) (by decide) (fun _ _ => Nat.le_of_ble_eq_true rfl) (fun _ _ => rfl) rfl ?_
  refine V.aload_n dX9_slot_0 rfl rfl ?_
  refine V.iload_n dX9_slot_1 rfl rfl ?_
  obtain ⟨r1, I2, L3, t4, H5⟩ := H0
  refine V.cVi (N := mr_X9_isSlot) (as := [.int a]) dX9_slot_2 ml_X9_177 ok_X9_isSlot okV_X9_isSlot ⟨Nat.le_of_ble_eq_true rfl, Nat.le_of_ble_eq_true rfl⟩ hm.1 rfl rfl rfl (Nat.le_of_ble_eq_true rfl) t4 ?_
  refine V.if_ne (tgt := 13) dX9_slot_5 (by decide) (fun c6 => ?_) (fun c6 => ?_)
  · have H7 := H5.1 c6
    refine V.iload_n dX9_slot_13 rfl rfl ?_
    refine V.i2l dX9_slot_14 ?_
    refine V.lconst (v := 0) dX9_slot_15 (by decide) ?_
    refine V.ldc2 kc_X9_327 dX9_slot_16 ?_
    obtain ⟨r8, I9, L10, t11, H12⟩ := H7
    refine V.cSi (N := mr_X9_within) (as := [.long b.toInt64, .long (0 : Int64), .long (7 : Int64)]) dX9_slot_19 ml_X9_116 ok_X9_within okS_X9_within ⟨Nat.le_of_ble_eq_true rfl, Nat.le_of_ble_eq_true rfl⟩ rfl rfl (Nat.le_of_ble_eq_true rfl) t11 ?_
    refine V.if_eq (tgt := 34) dX9_slot_22 (by decide) (fun c13 => ?_) (fun c13 => ?_)
    · have H14 := H12.1 c13
      refine V.bipush (v := (-102)) dX9_slot_34 (by decide) ?_
      exact V.ret (v := some (.int (-102 : Int32))) rfl (Or.inl ⟨_, rfl, dX9_slot_36, _, rfl, rfl⟩) ⟨Nat.le_refl _, Nat.le_refl _⟩ H14
    · have H15 := H12.2 c13
      refine V.aload_n dX9_slot_25 rfl rfl ?_
      refine V.iload_n dX9_slot_26 rfl rfl ?_
      refine V.iload_n dX9_slot_27 rfl rfl ?_
      obtain ⟨r16, I17, L18, t19, H20⟩ := H15
      refine V.cVi (N := mr_X9_slotNow) (as := [.int a, .int b]) dX9_slot_28 ml_X9_329 ok_X9_slotNow okV_X9_slotNow ⟨Nat.le_of_ble_eq_true rfl, Nat.le_of_ble_eq_true rfl⟩ hm.1 rfl rfl rfl (Nat.le_of_ble_eq_true rfl) t19 ?_
      refine V.goto (tgt := 36) dX9_slot_31 (by decide) ?_
      exact V.ret (v := some (.int r16)) rfl (Or.inl ⟨_, rfl, dX9_slot_36, _, rfl, rfl⟩) ⟨Nat.le_refl _, Nat.le_refl _⟩ H20
  · have H21 := H5.2 c6
    refine V.bipush (v := (-101)) dX9_slot_8 (by decide) ?_
    refine V.goto (tgt := 36) dX9_slot_10 (by decide) ?_
    exact V.ret (v := some (.int (-101 : Int32))) rfl (Or.inl ⟨_, rfl, dX9_slot_36, _, rfl, rfl⟩) ⟨Nat.le_refl _, Nat.le_refl _⟩ H21
def hd_X9_put_28 (S : List mjD) (RET : Option Value → mjH → Prop) (a0 : Nat) (x1 : Int32) (x2 : Int32) (I : Nat → Nat → Int32) (L : Nat → Nat → Int64) : Prop := V mr_X9_put (0, 0) RET 28 [(0, .ref a0), (1, .int x1), (2, .int x2)] [] (S, I, L) (0, 0)
set_option maxRecDepth 100000 in
set_option maxHeartbeats 4000000 in
theorem it_X9_put_28 {S : List mjD} {RET : Option Value → mjH → Prop} {a0 : Nat} (h0 : is_Model S a0) {x1 : Int32} {x2 : Int32} {I : Nat → Nat → Int32} {L : Nat → Nat → Int64} (H0 : (((6 : Int32) ≤ x2 → ∃ r19 I20 L21, CTi mr_X9_keep [.ref a0, .int x1] S I L r19 I20 L21 ∧ ((r19 < 0 → RET (some (.int r19)) (S, mj_up I20 a0 9 (I20 a0 9), L21)) ∧ (¬ r19 < 0 → RET (some (.int r19)) (S, mj_up I20 a0 9 (0 : Int32), L21)))) ∧ (¬ (6 : Int32) ≤ x2 → (vp_in x2 6) ∧ (vp_in x2 6) ∧ ∀ y32 : Int32, y32 = x2 + 1 → hd_X9_put_28 S RET a0 x1 y32 I (mj_up L (a0 + 10) x2.toNatClampNeg (L (a0 + 8) x2.toNatClampNeg))))) : hd_X9_put_28 S RET a0 x1 x2 I L := by
  unfold hd_X9_put_28
  refine V.iload_n dX9_put_28 rfl rfl ?_
  refine V.bipush (v := (6)) dX9_put_29 (by decide) ?_
  refine V.icmp_ge (tgt := 52) dX9_put_31 (by decide) (fun c17 => ?_) (fun c17 => ?_)
  · have H18 := H0.1 c17
    refine V.aload_n dX9_put_52 rfl rfl ?_
    refine V.iload_n dX9_put_53 rfl rfl ?_
    obtain ⟨r19, I20, L21, t22, H23⟩ := H18
    refine V.cVi (N := mr_X9_keep) (as := [.int x1]) dX9_put_54 ml_X9_280 ok_X9_keep okV_X9_keep ⟨Nat.le_of_ble_eq_true rfl, Nat.le_of_ble_eq_true rfl⟩ h0.1 rfl rfl rfl (Nat.le_of_ble_eq_true rfl) t22 ?_
    refine V.istore_n (lo' := [(2, .int r19), (0, .ref a0), (1, .int x1)]) dX9_put_57 rfl (by decide) rfl ?_
    refine V.aload_n dX9_put_58 rfl rfl ?_
    refine V.iload_n dX9_put_59 rfl rfl ?_
    refine V.if_lt (tgt := 67) dX9_put_60 (by decide) (fun c24 => ?_) (fun c24 => ?_)
    · have H25 := H23.1 c24
      refine V.aload_n dX9_put_67 rfl rfl ?_
      refine V.getf (v := .int (I20 a0 9)) dX9_put_68 fl_X9_120 h0.1 (by decide) rfl ?_
      refine V.puti dX9_put_71 fl_X9_120 fp_X9_120 (Or.inl rfl) h0.1 (by decide) rfl rfl ?_
      refine V.iload_n dX9_put_74 rfl rfl ?_
      exact V.ret (v := some (.int r19)) rfl (Or.inl ⟨_, rfl, dX9_put_75, _, rfl, rfl⟩) ⟨Nat.le_refl _, Nat.le_refl _⟩ H25
    · have H26 := H23.2 c24
      refine V.iconst (v := (0)) dX9_put_63 (by decide) ?_
      refine V.goto (tgt := 71) dX9_put_64 (by decide) ?_
      refine V.puti dX9_put_71 fl_X9_120 fp_X9_120 (Or.inl rfl) h0.1 (by decide) rfl rfl ?_
      refine V.iload_n dX9_put_74 rfl rfl ?_
      exact V.ret (v := some (.int r19)) rfl (Or.inl ⟨_, rfl, dX9_put_75, _, rfl, rfl⟩) ⟨Nat.le_refl _, Nat.le_refl _⟩ H26
  · have H27 := H0.2 c17
    refine V.aload_n dX9_put_34 rfl rfl ?_
    refine V.getf (v := .ref (a0 + 10)) dX9_put_35 fl_X9_39 h0.1 (by decide) rfl ?_
    refine V.iload_n dX9_put_38 rfl rfl ?_
    refine V.aload_n dX9_put_39 rfl rfl ?_
    refine V.getf (v := .ref (a0 + 8)) dX9_put_40 fl_X9_33 h0.1 (by decide) rfl ?_
    refine V.iload_n dX9_put_43 rfl rfl ?_
    obtain ⟨o28, H29⟩ := H27
    refine V.lald dX9_put_44 h0.2.2.2.2.2.2.2.2.1 o28 ?_
    obtain ⟨o30, H31⟩ := H29
    refine V.last dX9_put_45 h0.2.2.2.2.2.2.2.2.2.2.1 o30 ?_
    obtain ⟨y32, e33⟩ : ∃ y : Int32, y = x2 + 1 := ⟨_, rfl⟩
    have H34 := H31 y32 e33
    refine V.iinc (v := y32) (lo' := [(2, .int y32), (0, .ref a0), (1, .int x1)]) dX9_put_46 rfl (by rw [e33]; rfl) (by decide) rfl ?_
    refine V.goto (tgt := 28) dX9_put_49 (by decide) ?_
    exact V.los [1, 2, 0] rfl H34
set_option maxRecDepth 100000 in
set_option maxHeartbeats 4000000 in
theorem wp_X9_put {S : List mjD} {RET : Option Value → mjH → Prop} {m : Nat} (hm : is_Model S m) {a : Int32} {I : Nat → Nat → Int32} {L : Nat → Nat → Int64} (H0 : ∃ r1 I2 L3, CTi mr_X9_isSlot [.ref m, .int a] S I L r1 I2 L3 ∧ ((¬ r1 = 0 → ∃ r8 I9 L10, CTi mr_X9_readText [.ref m] S I2 L3 r8 I9 L10 ∧ ((¬ (I9 m 11) = 0 → hd_X9_put_28 S RET m a (0 : Int32) I9 L10) ∧ ((I9 m 11) = 0 → RET (some (.int (-103 : Int32))) (S, I9, L10)))) ∧ (r1 = 0 → RET (some (.int (-101 : Int32))) (S, I2, L3)))) : CT mr_X9_put (0, 0) [.ref m, .int a] (S, I, L) RET := by
  refine CT.of (lo := [(0, .ref m), (1, .int a)]) (by decide) (fun _ _ => Nat.le_of_ble_eq_true rfl) (fun _ _ => rfl) rfl ?_
  refine V.aload_n dX9_put_0 rfl rfl ?_
  refine V.iload_n dX9_put_1 rfl rfl ?_
  obtain ⟨r1, I2, L3, t4, H5⟩ := H0
  refine V.cVi (N := mr_X9_isSlot) (as := [.int a]) dX9_put_2 ml_X9_177 ok_X9_isSlot okV_X9_isSlot ⟨Nat.le_of_ble_eq_true rfl, Nat.le_of_ble_eq_true rfl⟩ hm.1 rfl rfl rfl (Nat.le_of_ble_eq_true rfl) t4 ?_
  refine V.if_ne (tgt := 11) dX9_put_5 (by decide) (fun c6 => ?_) (fun c6 => ?_)
  · have H7 := H5.1 c6
    refine V.aload_n dX9_put_11 rfl rfl ?_
    obtain ⟨r8, I9, L10, t11, H12⟩ := H7
    refine V.cVi (N := mr_X9_readText) (as := []) dX9_put_12 ml_X9_159 ok_X9_readText okV_X9_readText ⟨Nat.le_of_ble_eq_true rfl, Nat.le_of_ble_eq_true rfl⟩ hm.1 rfl rfl rfl (Nat.le_of_ble_eq_true rfl) t11 ?_
    refine V.pop dX9_put_15 rfl ?_
    refine V.aload_n dX9_put_16 rfl rfl ?_
    refine V.getf (v := .int (I9 m 11)) dX9_put_17 fl_X9_152 hm.1 (by decide) rfl ?_
    refine V.if_ne (tgt := 26) dX9_put_20 (by decide) (fun c13 => ?_) (fun c13 => ?_)
    · have H14 := H12.1 c13
      refine V.iconst (v := (0)) dX9_put_26 (by decide) ?_
      refine V.istore_n (lo' := [(2, .int (0 : Int32)), (0, .ref m), (1, .int a)]) dX9_put_27 rfl (by decide) rfl ?_
      exact V.los [1, 2, 0] rfl H14
    · have H15 := H12.2 c13
      refine V.bipush (v := (-103)) dX9_put_23 (by decide) ?_
      exact V.ret (v := some (.int (-103 : Int32))) rfl (Or.inl ⟨_, rfl, dX9_put_25, _, rfl, rfl⟩) ⟨Nat.le_refl _, Nat.le_refl _⟩ H15
  · have H16 := H5.2 c6
    refine V.bipush (v := (-101)) dX9_put_8 (by decide) ?_
    exact V.ret (v := some (.int (-101 : Int32))) rfl (Or.inl ⟨_, rfl, dX9_put_10, _, rfl, rfl⟩) ⟨Nat.le_refl _, Nat.le_refl _⟩ H16
def hd_X9_add_30 (S : List mjD) (RET : Option Value → mjH → Prop) (a0 : Nat) (x1 : Int32) (x2 : Int32) (x3 : Int32) (x4 : Int32) (I : Nat → Nat → Int32) (L : Nat → Nat → Int64) : Prop := V mr_X9_add (0, 0) RET 30 [(0, .ref a0), (1, .int x1), (2, .int x2), (3, .int x3), (4, .int x4)] [] (S, I, L) (0, 0)
set_option maxRecDepth 100000 in
set_option maxHeartbeats 4000000 in
theorem it_X9_add_30 {S : List mjD} {RET : Option Value → mjH → Prop} {a0 : Nat} (h0 : is_Model S a0) {x1 : Int32} {x2 : Int32} {x3 : Int32} {x4 : Int32} {I : Nat → Nat → Int32} {L : Nat → Nat → Int64} (H0 : (((6 : Int32) ≤ x4 → ∃ r27 I28 L29, CTi mr_X9_degreeNow [.ref a0] S I L r27 I28 L29 ∧ ((¬ r27 = (-1 : Int32) → ∃ r34 I35 L36, CTi mr_X9_keep [.ref a0, .int x3] S I28 L29 r34 I35 L36 ∧ RET (some (.int r34)) (S, I35, L36)) ∧ (r27 = (-1 : Int32) → RET (some (.int (-103 : Int32))) (S, I28, L29)))) ∧ (¬ (6 : Int32) ≤ x4 → (vp_in (((6 : Int32) * x1) + x4) 24) ∧ (vp_in (((6 : Int32) * x2) + x4) 24) ∧ (vp_in x4 6) ∧ ∀ y47 : Int32, y47 = x4 + 1 → hd_X9_add_30 S RET a0 x1 x2 x3 y47 I (mj_up L (a0 + 10) x4.toNatClampNeg ((L (a0 + 2) (((6 : Int32) * x1) + x4).toNatClampNeg) + (L (a0 + 2) (((6 : Int32) * x2) + x4).toNatClampNeg)))))) : hd_X9_add_30 S RET a0 x1 x2 x3 x4 I L := by
  unfold hd_X9_add_30
  refine V.iload dX9_add_30 rfl ?_
  refine V.bipush (v := (6)) dX9_add_32 (by decide) ?_
  refine V.icmp_ge (tgt := 75) dX9_add_34 (by decide) (fun c25 => ?_) (fun c25 => ?_)
  · have H26 := H0.1 c25
    refine V.aload_n dX9_add_75 rfl rfl ?_
    obtain ⟨r27, I28, L29, t30, H31⟩ := H26
    refine V.cVi (N := mr_X9_degreeNow) (as := []) dX9_add_76 ml_X9_234 ok_X9_degreeNow okV_X9_degreeNow ⟨Nat.le_of_ble_eq_true rfl, Nat.le_of_ble_eq_true rfl⟩ h0.1 rfl rfl rfl (Nat.le_of_ble_eq_true rfl) t30 ?_
    refine V.iconst (v := (-1)) dX9_add_79 (by decide) ?_
    refine V.icmp_ne (tgt := 88) dX9_add_80 (by decide) (fun c32 => ?_) (fun c32 => ?_)
    · have H33 := H31.1 c32
      refine V.aload_n dX9_add_88 rfl rfl ?_
      refine V.iload_n dX9_add_89 rfl rfl ?_
      obtain ⟨r34, I35, L36, t37, H38⟩ := H33
      refine V.cVi (N := mr_X9_keep) (as := [.int x3]) dX9_add_90 ml_X9_280 ok_X9_keep okV_X9_keep ⟨Nat.le_of_ble_eq_true rfl, Nat.le_of_ble_eq_true rfl⟩ h0.1 rfl rfl rfl (Nat.le_of_ble_eq_true rfl) t37 ?_
      exact V.ret (v := some (.int r34)) rfl (Or.inl ⟨_, rfl, dX9_add_93, _, rfl, rfl⟩) ⟨Nat.le_refl _, Nat.le_refl _⟩ H38
    · have H39 := H31.2 c32
      refine V.bipush (v := (-103)) dX9_add_83 (by decide) ?_
      refine V.goto (tgt := 93) dX9_add_85 (by decide) ?_
      exact V.ret (v := some (.int (-103 : Int32))) rfl (Or.inl ⟨_, rfl, dX9_add_93, _, rfl, rfl⟩) ⟨Nat.le_refl _, Nat.le_refl _⟩ H39
  · have H40 := H0.2 c25
    refine V.aload_n dX9_add_37 rfl rfl ?_
    refine V.getf (v := .ref (a0 + 10)) dX9_add_38 fl_X9_39 h0.1 (by decide) rfl ?_
    refine V.iload dX9_add_41 rfl ?_
    refine V.aload_n dX9_add_43 rfl rfl ?_
    refine V.getf (v := .ref (a0 + 2)) dX9_add_44 fl_X9_13 h0.1 (by decide) rfl ?_
    refine V.bipush (v := (6)) dX9_add_47 (by decide) ?_
    refine V.iload_n dX9_add_49 rfl rfl ?_
    refine V.imul dX9_add_50 ?_
    refine V.iload dX9_add_51 rfl ?_
    refine V.iadd dX9_add_53 ?_
    obtain ⟨o41, H42⟩ := H40
    refine V.lald dX9_add_54 h0.2.2.1 o41 ?_
    refine V.aload_n dX9_add_55 rfl rfl ?_
    refine V.getf (v := .ref (a0 + 2)) dX9_add_56 fl_X9_13 h0.1 (by decide) rfl ?_
    refine V.bipush (v := (6)) dX9_add_59 (by decide) ?_
    refine V.iload_n dX9_add_61 rfl rfl ?_
    refine V.imul dX9_add_62 ?_
    refine V.iload dX9_add_63 rfl ?_
    refine V.iadd dX9_add_65 ?_
    obtain ⟨o43, H44⟩ := H42
    refine V.lald dX9_add_66 h0.2.2.1 o43 ?_
    refine V.ladd dX9_add_67 ?_
    obtain ⟨o45, H46⟩ := H44
    refine V.last dX9_add_68 h0.2.2.2.2.2.2.2.2.2.2.1 o45 ?_
    obtain ⟨y47, e48⟩ : ∃ y : Int32, y = x4 + 1 := ⟨_, rfl⟩
    have H49 := H46 y47 e48
    refine V.iinc (v := y47) (lo' := [(4, .int y47), (0, .ref a0), (1, .int x1), (2, .int x2), (3, .int x3)]) dX9_add_69 rfl (by rw [e48]; rfl) (by decide) rfl ?_
    refine V.goto (tgt := 30) dX9_add_72 (by decide) ?_
    exact V.los [1, 2, 3, 4, 0] rfl H49
set_option maxRecDepth 100000 in
set_option maxHeartbeats 4000000 in
theorem wp_X9_add {S : List mjD} {RET : Option Value → mjH → Prop} {m : Nat} (hm : is_Model S m) {a : Int32} {b : Int32} {c : Int32} {I : Nat → Nat → Int32} {L : Nat → Nat → Int64} (H0 : ∃ r1 I2 L3, CTi mr_X9_isFilled [.ref m, .int a] S I L r1 I2 L3 ∧ ((r1 = 0 → RET (some (.int (-101 : Int32))) (S, I2, L3)) ∧ (¬ r1 = 0 → ∃ r9 I10 L11, CTi mr_X9_isFilled [.ref m, .int b] S I2 L3 r9 I10 L11 ∧ ((r9 = 0 → RET (some (.int (-101 : Int32))) (S, I10, L11)) ∧ (¬ r9 = 0 → ∃ r17 I18 L19, CTi mr_X9_isSlot [.ref m, .int c] S I10 L11 r17 I18 L19 ∧ ((¬ r17 = 0 → hd_X9_add_30 S RET m a b c (0 : Int32) I18 L19) ∧ (r17 = 0 → RET (some (.int (-101 : Int32))) (S, I18, L19)))))))) : CT mr_X9_add (0, 0) [.ref m, .int a, .int b, .int c] (S, I, L) RET := by
  refine CT.of (lo := [(0, .ref m), (1, .int a), (2, .int b), (3, .int c)]) (by decide) (fun _ _ => Nat.le_of_ble_eq_true rfl) (fun _ _ => rfl) rfl ?_
  refine V.aload_n dX9_add_0 rfl rfl ?_
  refine V.iload_n dX9_add_1 rfl rfl ?_
  obtain ⟨r1, I2, L3, t4, H5⟩ := H0
  refine V.cVi (N := mr_X9_isFilled) (as := [.int a]) dX9_add_2 ml_X9_299 ok_X9_isFilled okV_X9_isFilled ⟨Nat.le_of_ble_eq_true rfl, Nat.le_of_ble_eq_true rfl⟩ hm.1 rfl rfl rfl (Nat.le_of_ble_eq_true rfl) t4 ?_
  refine V.if_eq (tgt := 24) dX9_add_5 (by decide) (fun c6 => ?_) (fun c6 => ?_)
  · have H7 := H5.1 c6
    refine V.bipush (v := (-101)) dX9_add_24 (by decide) ?_
    exact V.ret (v := some (.int (-101 : Int32))) rfl (Or.inl ⟨_, rfl, dX9_add_26, _, rfl, rfl⟩) ⟨Nat.le_refl _, Nat.le_refl _⟩ H7
  · have H8 := H5.2 c6
    refine V.aload_n dX9_add_8 rfl rfl ?_
    refine V.iload_n dX9_add_9 rfl rfl ?_
    obtain ⟨r9, I10, L11, t12, H13⟩ := H8
    refine V.cVi (N := mr_X9_isFilled) (as := [.int b]) dX9_add_10 ml_X9_299 ok_X9_isFilled okV_X9_isFilled ⟨Nat.le_of_ble_eq_true rfl, Nat.le_of_ble_eq_true rfl⟩ hm.1 rfl rfl rfl (Nat.le_of_ble_eq_true rfl) t12 ?_
    refine V.if_eq (tgt := 24) dX9_add_13 (by decide) (fun c14 => ?_) (fun c14 => ?_)
    · have H15 := H13.1 c14
      refine V.bipush (v := (-101)) dX9_add_24 (by decide) ?_
      exact V.ret (v := some (.int (-101 : Int32))) rfl (Or.inl ⟨_, rfl, dX9_add_26, _, rfl, rfl⟩) ⟨Nat.le_refl _, Nat.le_refl _⟩ H15
    · have H16 := H13.2 c14
      refine V.aload_n dX9_add_16 rfl rfl ?_
      refine V.iload_n dX9_add_17 rfl rfl ?_
      obtain ⟨r17, I18, L19, t20, H21⟩ := H16
      refine V.cVi (N := mr_X9_isSlot) (as := [.int c]) dX9_add_18 ml_X9_177 ok_X9_isSlot okV_X9_isSlot ⟨Nat.le_of_ble_eq_true rfl, Nat.le_of_ble_eq_true rfl⟩ hm.1 rfl rfl rfl (Nat.le_of_ble_eq_true rfl) t20 ?_
      refine V.if_ne (tgt := 27) dX9_add_21 (by decide) (fun c22 => ?_) (fun c22 => ?_)
      · have H23 := H21.1 c22
        refine V.iconst (v := (0)) dX9_add_27 (by decide) ?_
        refine V.istore (lo' := [(4, .int (0 : Int32)), (0, .ref m), (1, .int a), (2, .int b), (3, .int c)]) dX9_add_28 (by decide) rfl ?_
        exact V.los [1, 2, 3, 4, 0] rfl H23
      · have H24 := H21.2 c22
        refine V.bipush (v := (-101)) dX9_add_24 (by decide) ?_
        exact V.ret (v := some (.int (-101 : Int32))) rfl (Or.inl ⟨_, rfl, dX9_add_26, _, rfl, rfl⟩) ⟨Nat.le_refl _, Nat.le_refl _⟩ H24
def hd_X9_times_55 (S : List mjD) (RET : Option Value → mjH → Prop) (a0 : Nat) (x1 : Int32) (x2 : Int32) (x3 : Int32) (x4 : Int32) (I : Nat → Nat → Int32) (L : Nat → Nat → Int64) : Prop := V mr_X9_times (0, 0) RET 55 [(0, .ref a0), (1, .int x1), (2, .int x2), (3, .int x3), (4, .int x4)] [] (S, I, L) (0, 0)
def hd_X9_times_69 (S : List mjD) (RET : Option Value → mjH → Prop) (a0 : Nat) (x1 : Int32) (x2 : Int32) (x3 : Int32) (x4 : Int32) (x5 : Int32) (I : Nat → Nat → Int32) (L : Nat → Nat → Int64) : Prop := V mr_X9_times (0, 0) RET 69 [(0, .ref a0), (1, .int x1), (2, .int x2), (3, .int x3), (4, .int x4), (5, .int x5)] [] (S, I, L) (0, 0)
set_option maxRecDepth 100000 in
set_option maxHeartbeats 4000000 in
theorem it_X9_times_55 {S : List mjD} {RET : Option Value → mjH → Prop} {a0 : Nat} (h0 : is_Model S a0) {x1 : Int32} {x2 : Int32} {x3 : Int32} {x4 : Int32} {I : Nat → Nat → Int32} {L : Nat → Nat → Int64} (H0 : (vp_in x1 4) ∧ (((I (a0 + 3) x1.toNatClampNeg) < x4 → ∃ r41 I42 L43, CTi mr_X9_keep [.ref a0, .int x3] S I L r41 I42 L43 ∧ RET (some (.int r41)) (S, I42, L43)) ∧ (¬ (I (a0 + 3) x1.toNatClampNeg) < x4 → hd_X9_times_69 S RET a0 x1 x2 x3 x4 (0 : Int32) I L))) : hd_X9_times_55 S RET a0 x1 x2 x3 x4 I L := by
  unfold hd_X9_times_55
  refine V.iload dX9_times_55 rfl ?_
  refine V.aload_n dX9_times_57 rfl rfl ?_
  refine V.getf (v := .ref (a0 + 3)) dX9_times_58 fl_X9_17 h0.1 (by decide) rfl ?_
  refine V.iload_n dX9_times_61 rfl rfl ?_
  obtain ⟨o37, H38⟩ := H0
  refine V.iald dX9_times_62 h0.2.2.2.1 o37 ?_
  refine V.icmp_gt (tgt := 130) dX9_times_63 (by decide) (fun c39 => ?_) (fun c39 => ?_)
  · have H40 := H38.1 c39
    refine V.aload_n dX9_times_130 rfl rfl ?_
    refine V.iload_n dX9_times_131 rfl rfl ?_
    obtain ⟨r41, I42, L43, t44, H45⟩ := H40
    refine V.cVi (N := mr_X9_keep) (as := [.int x3]) dX9_times_132 ml_X9_280 ok_X9_keep okV_X9_keep ⟨Nat.le_of_ble_eq_true rfl, Nat.le_of_ble_eq_true rfl⟩ h0.1 rfl rfl rfl (Nat.le_of_ble_eq_true rfl) t44 ?_
    exact V.ret (v := some (.int r41)) rfl (Or.inl ⟨_, rfl, dX9_times_135, _, rfl, rfl⟩) ⟨Nat.le_refl _, Nat.le_refl _⟩ H45
  · have H46 := H38.2 c39
    refine V.iconst (v := (0)) dX9_times_66 (by decide) ?_
    refine V.istore (lo' := [(5, .int (0 : Int32)), (0, .ref a0), (1, .int x1), (2, .int x2), (3, .int x3), (4, .int x4)]) dX9_times_67 (by decide) rfl ?_
    exact V.los [1, 2, 3, 4, 5, 0] rfl H46
set_option maxRecDepth 100000 in
set_option maxHeartbeats 4000000 in
theorem it_X9_times_69 {S : List mjD} {RET : Option Value → mjH → Prop} {a0 : Nat} (h0 : is_Model S a0) {x1 : Int32} {x2 : Int32} {x3 : Int32} {x4 : Int32} {x5 : Int32} {I : Nat → Nat → Int32} {L : Nat → Nat → Int64} (H0 : (vp_in x2 4) ∧ (((I (a0 + 3) x2.toNatClampNeg) < x5 → ∀ y51 : Int32, y51 = x4 + 1 → hd_X9_times_55 S RET a0 x1 x2 x3 y51 I L) ∧ (¬ (I (a0 + 3) x2.toNatClampNeg) < x5 → (vp_in (x4 + x5) 6) ∧ (vp_in (((6 : Int32) * x1) + x4) 24) ∧ (vp_in (((6 : Int32) * x2) + x5) 24) ∧ (vp_in (x4 + x5) 6) ∧ ∀ y63 : Int32, y63 = x5 + 1 → hd_X9_times_69 S RET a0 x1 x2 x3 x4 y63 I (mj_up L (a0 + 10) (x4 + x5).toNatClampNeg ((L (a0 + 10) (x4 + x5).toNatClampNeg) + ((L (a0 + 2) (((6 : Int32) * x1) + x4).toNatClampNeg) * (L (a0 + 2) (((6 : Int32) * x2) + x5).toNatClampNeg))))))) : hd_X9_times_69 S RET a0 x1 x2 x3 x4 x5 I L := by
  unfold hd_X9_times_69
  refine V.iload dX9_times_69 rfl ?_
  refine V.aload_n dX9_times_71 rfl rfl ?_
  refine V.getf (v := .ref (a0 + 3)) dX9_times_72 fl_X9_17 h0.1 (by decide) rfl ?_
  refine V.iload_n dX9_times_75 rfl rfl ?_
  obtain ⟨o47, H48⟩ := H0
  refine V.iald dX9_times_76 h0.2.2.2.1 o47 ?_
  refine V.icmp_gt (tgt := 124) dX9_times_77 (by decide) (fun c49 => ?_) (fun c49 => ?_)
  · have H50 := H48.1 c49
    obtain ⟨y51, e52⟩ : ∃ y : Int32, y = x4 + 1 := ⟨_, rfl⟩
    have H53 := H50 y51 e52
    refine V.iinc (v := y51) (lo' := [(4, .int y51), (0, .ref a0), (1, .int x1), (2, .int x2), (3, .int x3), (5, .int x5)]) dX9_times_124 rfl (by rw [e52]; rfl) (by decide) rfl ?_
    refine V.goto (tgt := 55) dX9_times_127 (by decide) ?_
    exact V.los [1, 2, 3, 4, 0] rfl H53
  · have H54 := H48.2 c49
    refine V.aload_n dX9_times_80 rfl rfl ?_
    refine V.getf (v := .ref (a0 + 10)) dX9_times_81 fl_X9_39 h0.1 (by decide) rfl ?_
    refine V.iload dX9_times_84 rfl ?_
    refine V.iload dX9_times_86 rfl ?_
    refine V.iadd dX9_times_88 ?_
    refine V.dup2 dX9_times_89 rfl rfl ?_
    obtain ⟨o55, H56⟩ := H54
    refine V.lald dX9_times_90 h0.2.2.2.2.2.2.2.2.2.2.1 o55 ?_
    refine V.aload_n dX9_times_91 rfl rfl ?_
    refine V.getf (v := .ref (a0 + 2)) dX9_times_92 fl_X9_13 h0.1 (by decide) rfl ?_
    refine V.bipush (v := (6)) dX9_times_95 (by decide) ?_
    refine V.iload_n dX9_times_97 rfl rfl ?_
    refine V.imul dX9_times_98 ?_
    refine V.iload dX9_times_99 rfl ?_
    refine V.iadd dX9_times_101 ?_
    obtain ⟨o57, H58⟩ := H56
    refine V.lald dX9_times_102 h0.2.2.1 o57 ?_
    refine V.aload_n dX9_times_103 rfl rfl ?_
    refine V.getf (v := .ref (a0 + 2)) dX9_times_104 fl_X9_13 h0.1 (by decide) rfl ?_
    refine V.bipush (v := (6)) dX9_times_107 (by decide) ?_
    refine V.iload_n dX9_times_109 rfl rfl ?_
    refine V.imul dX9_times_110 ?_
    refine V.iload dX9_times_111 rfl ?_
    refine V.iadd dX9_times_113 ?_
    obtain ⟨o59, H60⟩ := H58
    refine V.lald dX9_times_114 h0.2.2.1 o59 ?_
    refine V.lmul dX9_times_115 ?_
    refine V.ladd dX9_times_116 ?_
    obtain ⟨o61, H62⟩ := H60
    refine V.last dX9_times_117 h0.2.2.2.2.2.2.2.2.2.2.1 o61 ?_
    obtain ⟨y63, e64⟩ : ∃ y : Int32, y = x5 + 1 := ⟨_, rfl⟩
    have H65 := H62 y63 e64
    refine V.iinc (v := y63) (lo' := [(5, .int y63), (0, .ref a0), (1, .int x1), (2, .int x2), (3, .int x3), (4, .int x4)]) dX9_times_118 rfl (by rw [e64]; rfl) (by decide) rfl ?_
    refine V.goto (tgt := 69) dX9_times_121 (by decide) ?_
    exact V.los [1, 2, 3, 4, 5, 0] rfl H65
set_option maxRecDepth 100000 in
set_option maxHeartbeats 4000000 in
theorem wp_X9_times {S : List mjD} {RET : Option Value → mjH → Prop} {m : Nat} (hm : is_Model S m) {a : Int32} {b : Int32} {c : Int32} {I : Nat → Nat → Int32} {L : Nat → Nat → Int64} (H0 : ∃ r1 I2 L3, CTi mr_X9_isFilled [.ref m, .int a] S I L r1 I2 L3 ∧ ((r1 = 0 → RET (some (.int (-101 : Int32))) (S, I2, L3)) ∧ (¬ r1 = 0 → ∃ r9 I10 L11, CTi mr_X9_isFilled [.ref m, .int b] S I2 L3 r9 I10 L11 ∧ ((r9 = 0 → RET (some (.int (-101 : Int32))) (S, I10, L11)) ∧ (¬ r9 = 0 → ∃ r17 I18 L19, CTi mr_X9_isSlot [.ref m, .int c] S I10 L11 r17 I18 L19 ∧ ((¬ r17 = 0 → (vp_in a 4) ∧ (vp_in b 4) ∧ ((((I18 (m + 3) a.toNatClampNeg) + (I18 (m + 3) b.toNatClampNeg)) ≤ (5 : Int32) → ∃ I31 L32, CTv mr_X9_become [.ref m, .long (0 : Int64)] S I18 L19 I31 L32 ∧ hd_X9_times_55 S RET m a b c (0 : Int32) I31 L32) ∧ (¬ ((I18 (m + 3) a.toNatClampNeg) + (I18 (m + 3) b.toNatClampNeg)) ≤ (5 : Int32) → RET (some (.int (-104 : Int32))) (S, I18, L19)))) ∧ (r17 = 0 → RET (some (.int (-101 : Int32))) (S, I18, L19)))))))) : CT mr_X9_times (0, 0) [.ref m, .int a, .int b, .int c] (S, I, L) RET := by
  refine CT.of (lo := [(0, .ref m), (1, .int a), (2, .int b), (3, .int c)]) (by decide) (fun _ _ => Nat.le_of_ble_eq_true rfl) (fun _ _ => rfl) rfl ?_
  refine V.aload_n dX9_times_0 rfl rfl ?_
  refine V.iload_n dX9_times_1 rfl rfl ?_
  obtain ⟨r1, I2, L3, t4, H5⟩ := H0
  refine V.cVi (N := mr_X9_isFilled) (as := [.int a]) dX9_times_2 ml_X9_299 ok_X9_isFilled okV_X9_isFilled ⟨Nat.le_of_ble_eq_true rfl, Nat.le_of_ble_eq_true rfl⟩ hm.1 rfl rfl rfl (Nat.le_of_ble_eq_true rfl) t4 ?_
  refine V.if_eq (tgt := 24) dX9_times_5 (by decide) (fun c6 => ?_) (fun c6 => ?_)
  · have H7 := H5.1 c6
    refine V.bipush (v := (-101)) dX9_times_24 (by decide) ?_
    exact V.ret (v := some (.int (-101 : Int32))) rfl (Or.inl ⟨_, rfl, dX9_times_26, _, rfl, rfl⟩) ⟨Nat.le_refl _, Nat.le_refl _⟩ H7
  · have H8 := H5.2 c6
    refine V.aload_n dX9_times_8 rfl rfl ?_
    refine V.iload_n dX9_times_9 rfl rfl ?_
    obtain ⟨r9, I10, L11, t12, H13⟩ := H8
    refine V.cVi (N := mr_X9_isFilled) (as := [.int b]) dX9_times_10 ml_X9_299 ok_X9_isFilled okV_X9_isFilled ⟨Nat.le_of_ble_eq_true rfl, Nat.le_of_ble_eq_true rfl⟩ hm.1 rfl rfl rfl (Nat.le_of_ble_eq_true rfl) t12 ?_
    refine V.if_eq (tgt := 24) dX9_times_13 (by decide) (fun c14 => ?_) (fun c14 => ?_)
    · have H15 := H13.1 c14
      refine V.bipush (v := (-101)) dX9_times_24 (by decide) ?_
      exact V.ret (v := some (.int (-101 : Int32))) rfl (Or.inl ⟨_, rfl, dX9_times_26, _, rfl, rfl⟩) ⟨Nat.le_refl _, Nat.le_refl _⟩ H15
    · have H16 := H13.2 c14
      refine V.aload_n dX9_times_16 rfl rfl ?_
      refine V.iload_n dX9_times_17 rfl rfl ?_
      obtain ⟨r17, I18, L19, t20, H21⟩ := H16
      refine V.cVi (N := mr_X9_isSlot) (as := [.int c]) dX9_times_18 ml_X9_177 ok_X9_isSlot okV_X9_isSlot ⟨Nat.le_of_ble_eq_true rfl, Nat.le_of_ble_eq_true rfl⟩ hm.1 rfl rfl rfl (Nat.le_of_ble_eq_true rfl) t20 ?_
      refine V.if_ne (tgt := 27) dX9_times_21 (by decide) (fun c22 => ?_) (fun c22 => ?_)
      · have H23 := H21.1 c22
        refine V.aload_n dX9_times_27 rfl rfl ?_
        refine V.getf (v := .ref (m + 3)) dX9_times_28 fl_X9_17 hm.1 (by decide) rfl ?_
        refine V.iload_n dX9_times_31 rfl rfl ?_
        obtain ⟨o24, H25⟩ := H23
        refine V.iald dX9_times_32 hm.2.2.2.1 o24 ?_
        refine V.aload_n dX9_times_33 rfl rfl ?_
        refine V.getf (v := .ref (m + 3)) dX9_times_34 fl_X9_17 hm.1 (by decide) rfl ?_
        refine V.iload_n dX9_times_37 rfl rfl ?_
        obtain ⟨o26, H27⟩ := H25
        refine V.iald dX9_times_38 hm.2.2.2.1 o26 ?_
        refine V.iadd dX9_times_39 ?_
        refine V.iconst (v := (5)) dX9_times_40 (by decide) ?_
        refine V.icmp_le (tgt := 47) dX9_times_41 (by decide) (fun c28 => ?_) (fun c28 => ?_)
        · have H29 := H27.1 c28
          refine V.aload_n dX9_times_47 rfl rfl ?_
          refine V.lconst (v := 0) dX9_times_48 (by decide) ?_
          obtain ⟨I31, L32, t33, H34⟩ := H29
          refine V.cVv (N := mr_X9_become) (as := [.long (0 : Int64)]) dX9_times_49 ml_X9_252 ok_X9_become okV_X9_become ⟨Nat.le_of_ble_eq_true rfl, Nat.le_of_ble_eq_true rfl⟩ hm.1 rfl rfl rfl (Nat.le_of_ble_eq_true rfl) t33 ?_
          refine V.iconst (v := (0)) dX9_times_52 (by decide) ?_
          refine V.istore (lo' := [(4, .int (0 : Int32)), (0, .ref m), (1, .int a), (2, .int b), (3, .int c)]) dX9_times_53 (by decide) rfl ?_
          exact V.los [1, 2, 3, 4, 0] rfl H34
        · have H35 := H27.2 c28
          refine V.bipush (v := (-104)) dX9_times_44 (by decide) ?_
          exact V.ret (v := some (.int (-104 : Int32))) rfl (Or.inl ⟨_, rfl, dX9_times_46, _, rfl, rfl⟩) ⟨Nat.le_refl _, Nat.le_refl _⟩ H35
      · have H36 := H21.2 c22
        refine V.bipush (v := (-101)) dX9_times_24 (by decide) ?_
        exact V.ret (v := some (.int (-101 : Int32))) rfl (Or.inl ⟨_, rfl, dX9_times_26, _, rfl, rfl⟩) ⟨Nat.le_refl _, Nat.le_refl _⟩ H36
def hd_X9_common_59 (S : List mjD) (RET : Option Value → mjH → Prop) (a0 : Nat) (x2 : Int32) (x3 : Int32) (x4 : Int32) (I : Nat → Nat → Int32) (L : Nat → Nat → Int64) : Prop := V mr_X9_common (0, 0) RET 59 [(0, .ref a0), (2, .int x2), (3, .int x3), (4, .int x4)] [] (S, I, L) (0, 0)
def hd_X9_common_159 (S : List mjD) (RET : Option Value → mjH → Prop) (a0 : Nat) (x3 : Int32) (x4 : Int64) (x6 : Int32) (I : Nat → Nat → Int32) (L : Nat → Nat → Int64) : Prop := V mr_X9_common (0, 0) RET 159 [(0, .ref a0), (3, .int x3), (4, .long x4), (6, .int x6)] [] (S, I, L) (0, 0)
def hd_X9_common_85 (S : List mjD) (RET : Option Value → mjH → Prop) (a0 : Nat) (x2 : Int32) (x3 : Int32) (x4 : Int32) (x5 : Int32) (I : Nat → Nat → Int32) (L : Nat → Nat → Int64) : Prop := V mr_X9_common (0, 0) RET 85 [(0, .ref a0), (2, .int x2), (3, .int x3), (4, .int x4), (5, .int x5)] [] (S, I, L) (0, 0)
def hd_X9_common_222 (S : List mjD) (RET : Option Value → mjH → Prop) (a0 : Nat) (x3 : Int32) (x6 : Int32) (I : Nat → Nat → Int32) (L : Nat → Nat → Int64) : Prop := V mr_X9_common (0, 0) RET 222 [(0, .ref a0), (3, .int x3), (6, .int x6)] [] (S, I, L) (0, 0)
def hd_X9_common_234 (S : List mjD) (RET : Option Value → mjH → Prop) (a0 : Nat) (x3 : Int32) (x6 : Int32) (x7 : Int32) (I : Nat → Nat → Int32) (L : Nat → Nat → Int64) : Prop := V mr_X9_common (0, 0) RET 234 [(0, .ref a0), (3, .int x3), (6, .int x6), (7, .int x7)] [] (S, I, L) (0, 0)
set_option maxRecDepth 100000 in
set_option maxHeartbeats 4000000 in
theorem it_X9_common_59 {S : List mjD} {RET : Option Value → mjH → Prop} {a0 : Nat} (h0 : is_Model S a0) {x2 : Int32} {x3 : Int32} {x4 : Int32} {I : Nat → Nat → Int32} {L : Nat → Nat → Int64} (H0 : (((I a0 19) ≤ x4 → ∃ I43 L44, CTv mr_X9_laySlot [.ref a0, .int x2] S I L I43 L44 ∧ ∃ I48 L49, CTv mr_X9_layFactors [.ref a0] S I43 L44 I48 L49 ∧ ∃ I53 L54, CTv mr_X9_layContent [.ref a0] S I48 L49 I53 L54 ∧ ∃ r57 I58 L59, CTl mr_X9_divisor [.long (L54 a0 39), .long (L54 a0 18)] S I53 L54 r57 I58 L59 ∧ hd_X9_common_159 S RET a0 x3 r57 (0 : Int32) I58 L59) ∧ (¬ (I a0 19) ≤ x4 → (vp_in x4 6) ∧ (vp_in x4 6) ∧ hd_X9_common_85 S RET a0 x2 x3 x4 (0 : Int32) (mj_up I (a0 + 24) x4.toNatClampNeg (I (a0 + 12) x4.toNatClampNeg)) L))) : hd_X9_common_59 S RET a0 x2 x3 x4 I L := by
  unfold hd_X9_common_59
  refine V.iload dX9_common_59 rfl ?_
  refine V.aload_n dX9_common_61 rfl rfl ?_
  refine V.getf (v := .int (I a0 19)) dX9_common_62 fl_X9_191 h0.1 (by decide) rfl ?_
  refine V.icmp_ge (tgt := 130) dX9_common_65 (by decide) (fun c40 => ?_) (fun c40 => ?_)
  · have H41 := H0.1 c40
    refine V.aload_n dX9_common_130 rfl rfl ?_
    refine V.iload_n dX9_common_131 rfl rfl ?_
    obtain ⟨I43, L44, t45, H46⟩ := H41
    refine V.cVv (N := mr_X9_laySlot) (as := [.int x2]) dX9_common_132 ml_X9_305 ok_X9_laySlot okV_X9_laySlot ⟨Nat.le_of_ble_eq_true rfl, Nat.le_of_ble_eq_true rfl⟩ h0.1 rfl rfl rfl (Nat.le_of_ble_eq_true rfl) t45 ?_
    refine V.aload_n dX9_common_135 rfl rfl ?_
    obtain ⟨I48, L49, t50, H51⟩ := H46
    refine V.cVv (N := mr_X9_layFactors) (as := []) dX9_common_136 ml_X9_249 ok_X9_layFactors okV_X9_layFactors ⟨Nat.le_of_ble_eq_true rfl, Nat.le_of_ble_eq_true rfl⟩ h0.1 rfl rfl rfl (Nat.le_of_ble_eq_true rfl) t50 ?_
    refine V.aload_n dX9_common_139 rfl rfl ?_
    obtain ⟨I53, L54, t55, H56⟩ := H51
    refine V.cVv (N := mr_X9_layContent) (as := []) dX9_common_140 ml_X9_240 ok_X9_layContent okV_X9_layContent ⟨Nat.le_of_ble_eq_true rfl, Nat.le_of_ble_eq_true rfl⟩ h0.1 rfl rfl rfl (Nat.le_of_ble_eq_true rfl) t55 ?_
    refine V.aload_n dX9_common_143 rfl rfl ?_
    refine V.getf (v := .long (L54 a0 39)) dX9_common_144 fl_X9_354 h0.1 (by decide) rfl ?_
    refine V.aload_n dX9_common_147 rfl rfl ?_
    refine V.getf (v := .long (L54 a0 18)) dX9_common_148 fl_X9_230 h0.1 (by decide) rfl ?_
    obtain ⟨r57, I58, L59, t60, H61⟩ := H56
    refine V.cSl (N := mr_X9_divisor) (as := [.long (L54 a0 39), .long (L54 a0 18)]) dX9_common_151 ml_X9_214 ok_X9_divisor okS_X9_divisor ⟨Nat.le_of_ble_eq_true rfl, Nat.le_of_ble_eq_true rfl⟩ rfl rfl (Nat.le_of_ble_eq_true rfl) t60 ?_
    refine V.lstore (lo' := [(4, .long r57), (0, .ref a0), (2, .int x2), (3, .int x3)]) dX9_common_154 (by decide) rfl ?_
    refine V.iconst (v := (0)) dX9_common_156 (by decide) ?_
    refine V.istore (lo' := [(6, .int (0 : Int32)), (4, .long r57), (0, .ref a0), (2, .int x2), (3, .int x3)]) dX9_common_157 (by decide) rfl ?_
    exact V.los [2, 4, 1, 0] rfl H61
  · have H62 := H0.2 c40
    refine V.aload_n dX9_common_68 rfl rfl ?_
    refine V.getf (v := .ref (a0 + 24)) dX9_common_69 fl_X9_81 h0.1 (by decide) rfl ?_
    refine V.iload dX9_common_72 rfl ?_
    refine V.aload_n dX9_common_74 rfl rfl ?_
    refine V.getf (v := .ref (a0 + 12)) dX9_common_75 fl_X9_45 h0.1 (by decide) rfl ?_
    refine V.iload dX9_common_78 rfl ?_
    obtain ⟨o63, H64⟩ := H62
    refine V.iald dX9_common_80 h0.2.2.2.2.2.2.2.2.2.2.2.2.1 o63 ?_
    obtain ⟨o65, H66⟩ := H64
    refine V.iast dX9_common_81 h0.2.2.2.2.2.2.2.2.2.2.2.2.2.2.2.2.2.2.2.2.2.2.2.2.1 o65 ?_
    refine V.iconst (v := (0)) dX9_common_82 (by decide) ?_
    refine V.istore (lo' := [(5, .int (0 : Int32)), (0, .ref a0), (2, .int x2), (3, .int x3), (4, .int x4)]) dX9_common_83 (by decide) rfl ?_
    exact V.los [1, 2, 3, 4, 0] rfl H66
set_option maxRecDepth 100000 in
set_option maxHeartbeats 4000000 in
theorem it_X9_common_159 {S : List mjD} {RET : Option Value → mjH → Prop} {a0 : Nat} (h0 : is_Model S a0) {x3 : Int32} {x4 : Int64} {x6 : Int32} {I : Nat → Nat → Int32} {L : Nat → Nat → Int64} (H0 : (((I a0 38) ≤ x6 → ∃ I70 L71, CTv mr_X9_become [.ref a0, .long x4] S I L I70 L71 ∧ hd_X9_common_222 S RET a0 x3 (0 : Int32) I70 L71) ∧ (¬ (I a0 38) ≤ x6 → ∃ r75 I76 L77, CTi mr_X9_oftenOf [.ref a0, .int x6] S I L r75 I76 L77 ∧ (vp_in x6 6) ∧ (((I76 (a0 + 24) x6.toNatClampNeg) ≤ r75 → (vp_in x6 6) ∧ (vp_in x6 6) ∧ ∀ y88 : Int32, y88 = x6 + 1 → hd_X9_common_159 S RET a0 x3 x4 y88 (mj_up I76 (a0 + 24) x6.toNatClampNeg (I76 (a0 + 24) x6.toNatClampNeg)) L77) ∧ (¬ (I76 (a0 + 24) x6.toNatClampNeg) ≤ r75 → (vp_in x6 6) ∧ ∀ y94 : Int32, y94 = x6 + 1 → hd_X9_common_159 S RET a0 x3 x4 y94 (mj_up I76 (a0 + 24) x6.toNatClampNeg r75) L77))))) : hd_X9_common_159 S RET a0 x3 x4 x6 I L := by
  unfold hd_X9_common_159
  refine V.iload dX9_common_159 rfl ?_
  refine V.aload_n dX9_common_161 rfl rfl ?_
  refine V.getf (v := .int (I a0 38)) dX9_common_162 fl_X9_351 h0.1 (by decide) rfl ?_
  refine V.icmp_ge (tgt := 213) dX9_common_165 (by decide) (fun c67 => ?_) (fun c67 => ?_)
  · have H68 := H0.1 c67
    refine V.aload_n dX9_common_213 rfl rfl ?_
    refine V.lload dX9_common_214 rfl ?_
    obtain ⟨I70, L71, t72, H73⟩ := H68
    refine V.cVv (N := mr_X9_become) (as := [.long x4]) dX9_common_216 ml_X9_252 ok_X9_become okV_X9_become ⟨Nat.le_of_ble_eq_true rfl, Nat.le_of_ble_eq_true rfl⟩ h0.1 rfl rfl rfl (Nat.le_of_ble_eq_true rfl) t72 ?_
    refine V.iconst (v := (0)) dX9_common_219 (by decide) ?_
    refine V.istore (lo' := [(6, .int (0 : Int32)), (0, .ref a0), (3, .int x3), (4, .long x4)]) dX9_common_220 (by decide) rfl ?_
    exact V.los [1, 2, 0] rfl H73
  · have H74 := H0.2 c67
    refine V.aload_n dX9_common_168 rfl rfl ?_
    refine V.iload dX9_common_169 rfl ?_
    obtain ⟨r75, I76, L77, t78, H79⟩ := H74
    refine V.cVi (N := mr_X9_oftenOf) (as := [.int x6]) dX9_common_171 ml_X9_357 ok_X9_oftenOf okV_X9_oftenOf ⟨Nat.le_of_ble_eq_true rfl, Nat.le_of_ble_eq_true rfl⟩ h0.1 rfl rfl rfl (Nat.le_of_ble_eq_true rfl) t78 ?_
    refine V.istore (lo' := [(7, .int r75), (0, .ref a0), (3, .int x3), (4, .long x4), (6, .int x6)]) dX9_common_174 (by decide) rfl ?_
    refine V.aload_n dX9_common_176 rfl rfl ?_
    refine V.getf (v := .ref (a0 + 24)) dX9_common_177 fl_X9_81 h0.1 (by decide) rfl ?_
    refine V.iload dX9_common_180 rfl ?_
    refine V.iload dX9_common_182 rfl ?_
    refine V.aload_n dX9_common_184 rfl rfl ?_
    refine V.getf (v := .ref (a0 + 24)) dX9_common_185 fl_X9_81 h0.1 (by decide) rfl ?_
    refine V.iload dX9_common_188 rfl ?_
    obtain ⟨o80, H81⟩ := H79
    refine V.iald dX9_common_190 h0.2.2.2.2.2.2.2.2.2.2.2.2.2.2.2.2.2.2.2.2.2.2.2.2.1 o80 ?_
    refine V.icmp_ge (tgt := 199) dX9_common_191 (by decide) (fun c82 => ?_) (fun c82 => ?_)
    · have H83 := H81.1 c82
      refine V.aload_n dX9_common_199 rfl rfl ?_
      refine V.getf (v := .ref (a0 + 24)) dX9_common_200 fl_X9_81 h0.1 (by decide) rfl ?_
      refine V.iload dX9_common_203 rfl ?_
      obtain ⟨o84, H85⟩ := H83
      refine V.iald dX9_common_205 h0.2.2.2.2.2.2.2.2.2.2.2.2.2.2.2.2.2.2.2.2.2.2.2.2.1 o84 ?_
      obtain ⟨o86, H87⟩ := H85
      refine V.iast dX9_common_206 h0.2.2.2.2.2.2.2.2.2.2.2.2.2.2.2.2.2.2.2.2.2.2.2.2.1 o86 ?_
      obtain ⟨y88, e89⟩ : ∃ y : Int32, y = x6 + 1 := ⟨_, rfl⟩
      have H90 := H87 y88 e89
      refine V.iinc (v := y88) (lo' := [(6, .int y88), (7, .int r75), (0, .ref a0), (3, .int x3), (4, .long x4)]) dX9_common_207 rfl (by rw [e89]; rfl) (by decide) rfl ?_
      refine V.goto (tgt := 159) dX9_common_210 (by decide) ?_
      exact V.los [2, 3, 4, 0] rfl H90
    · have H91 := H81.2 c82
      refine V.iload dX9_common_194 rfl ?_
      refine V.goto (tgt := 206) dX9_common_196 (by decide) ?_
      obtain ⟨o92, H93⟩ := H91
      refine V.iast dX9_common_206 h0.2.2.2.2.2.2.2.2.2.2.2.2.2.2.2.2.2.2.2.2.2.2.2.2.1 o92 ?_
      obtain ⟨y94, e95⟩ : ∃ y : Int32, y = x6 + 1 := ⟨_, rfl⟩
      have H96 := H93 y94 e95
      refine V.iinc (v := y94) (lo' := [(6, .int y94), (7, .int r75), (0, .ref a0), (3, .int x3), (4, .long x4)]) dX9_common_207 rfl (by rw [e95]; rfl) (by decide) rfl ?_
      refine V.goto (tgt := 159) dX9_common_210 (by decide) ?_
      exact V.los [2, 3, 4, 0] rfl H96
set_option maxRecDepth 100000 in
set_option maxHeartbeats 4000000 in
theorem it_X9_common_85 {S : List mjD} {RET : Option Value → mjH → Prop} {a0 : Nat} (h0 : is_Model S a0) {x2 : Int32} {x3 : Int32} {x4 : Int32} {x5 : Int32} {I : Nat → Nat → Int32} {L : Nat → Nat → Int64} (H0 : (((6 : Int32) ≤ x5 → ∀ y99 : Int32, y99 = x4 + 1 → hd_X9_common_59 S RET a0 x2 x3 y99 I L) ∧ (¬ (6 : Int32) ≤ x5 → (vp_in (((6 : Int32) * x4) + x5) 36) ∧ (vp_in (((6 : Int32) * x4) + x5) 36) ∧ ∀ y107 : Int32, y107 = x5 + 1 → hd_X9_common_85 S RET a0 x2 x3 x4 y107 I (mj_up L (a0 + 23) (((6 : Int32) * x4) + x5).toNatClampNeg (L (a0 + 11) (((6 : Int32) * x4) + x5).toNatClampNeg))))) : hd_X9_common_85 S RET a0 x2 x3 x4 x5 I L := by
  unfold hd_X9_common_85
  refine V.iload dX9_common_85 rfl ?_
  refine V.bipush (v := (6)) dX9_common_87 (by decide) ?_
  refine V.icmp_ge (tgt := 124) dX9_common_89 (by decide) (fun c97 => ?_) (fun c97 => ?_)
  · have H98 := H0.1 c97
    obtain ⟨y99, e100⟩ : ∃ y : Int32, y = x4 + 1 := ⟨_, rfl⟩
    have H101 := H98 y99 e100
    refine V.iinc (v := y99) (lo' := [(4, .int y99), (0, .ref a0), (2, .int x2), (3, .int x3), (5, .int x5)]) dX9_common_124 rfl (by rw [e100]; rfl) (by decide) rfl ?_
    refine V.goto (tgt := 59) dX9_common_127 (by decide) ?_
    exact V.los [1, 2, 3, 0] rfl H101
  · have H102 := H0.2 c97
    refine V.aload_n dX9_common_92 rfl rfl ?_
    refine V.getf (v := .ref (a0 + 23)) dX9_common_93 fl_X9_78 h0.1 (by decide) rfl ?_
    refine V.bipush (v := (6)) dX9_common_96 (by decide) ?_
    refine V.iload dX9_common_98 rfl ?_
    refine V.imul dX9_common_100 ?_
    refine V.iload dX9_common_101 rfl ?_
    refine V.iadd dX9_common_103 ?_
    refine V.aload_n dX9_common_104 rfl rfl ?_
    refine V.getf (v := .ref (a0 + 11)) dX9_common_105 fl_X9_42 h0.1 (by decide) rfl ?_
    refine V.bipush (v := (6)) dX9_common_108 (by decide) ?_
    refine V.iload dX9_common_110 rfl ?_
    refine V.imul dX9_common_112 ?_
    refine V.iload dX9_common_113 rfl ?_
    refine V.iadd dX9_common_115 ?_
    obtain ⟨o103, H104⟩ := H102
    refine V.lald dX9_common_116 h0.2.2.2.2.2.2.2.2.2.2.2.1 o103 ?_
    obtain ⟨o105, H106⟩ := H104
    refine V.last dX9_common_117 h0.2.2.2.2.2.2.2.2.2.2.2.2.2.2.2.2.2.2.2.2.2.2.2.1 o105 ?_
    obtain ⟨y107, e108⟩ : ∃ y : Int32, y = x5 + 1 := ⟨_, rfl⟩
    have H109 := H106 y107 e108
    refine V.iinc (v := y107) (lo' := [(5, .int y107), (0, .ref a0), (2, .int x2), (3, .int x3), (4, .int x4)]) dX9_common_118 rfl (by rw [e108]; rfl) (by decide) rfl ?_
    refine V.goto (tgt := 85) dX9_common_121 (by decide) ?_
    exact V.los [1, 2, 3, 4, 0] rfl H109
set_option maxRecDepth 100000 in
set_option maxHeartbeats 4000000 in
theorem it_X9_common_222 {S : List mjD} {RET : Option Value → mjH → Prop} {a0 : Nat} (h0 : is_Model S a0) {x3 : Int32} {x6 : Int32} {I : Nat → Nat → Int32} {L : Nat → Nat → Int64} (H0 : (((I a0 38) ≤ x6 → ∃ r112 I113 L114, CTi mr_X9_keep [.ref a0, .int x3] S I L r112 I113 L114 ∧ RET (some (.int r112)) (S, I113, L114)) ∧ (¬ (I a0 38) ≤ x6 → hd_X9_common_234 S RET a0 x3 x6 (0 : Int32) I L))) : hd_X9_common_222 S RET a0 x3 x6 I L := by
  unfold hd_X9_common_222
  refine V.iload dX9_common_222 rfl ?_
  refine V.aload_n dX9_common_224 rfl rfl ?_
  refine V.getf (v := .int (I a0 38)) dX9_common_225 fl_X9_351 h0.1 (by decide) rfl ?_
  refine V.icmp_ge (tgt := 264) dX9_common_228 (by decide) (fun c110 => ?_) (fun c110 => ?_)
  · have H111 := H0.1 c110
    refine V.aload_n dX9_common_264 rfl rfl ?_
    refine V.iload_n dX9_common_265 rfl rfl ?_
    obtain ⟨r112, I113, L114, t115, H116⟩ := H111
    refine V.cVi (N := mr_X9_keep) (as := [.int x3]) dX9_common_266 ml_X9_280 ok_X9_keep okV_X9_keep ⟨Nat.le_of_ble_eq_true rfl, Nat.le_of_ble_eq_true rfl⟩ h0.1 rfl rfl rfl (Nat.le_of_ble_eq_true rfl) t115 ?_
    exact V.ret (v := some (.int r112)) rfl (Or.inl ⟨_, rfl, dX9_common_269, _, rfl, rfl⟩) ⟨Nat.le_refl _, Nat.le_refl _⟩ H116
  · have H117 := H0.2 c110
    refine V.iconst (v := (0)) dX9_common_231 (by decide) ?_
    refine V.istore (lo' := [(7, .int (0 : Int32)), (0, .ref a0), (3, .int x3), (6, .int x6)]) dX9_common_232 (by decide) rfl ?_
    exact V.los [1, 2, 3, 0] rfl H117
set_option maxRecDepth 100000 in
set_option maxHeartbeats 4000000 in
theorem it_X9_common_234 {S : List mjD} {RET : Option Value → mjH → Prop} {a0 : Nat} (h0 : is_Model S a0) {x3 : Int32} {x6 : Int32} {x7 : Int32} {I : Nat → Nat → Int32} {L : Nat → Nat → Int64} (H0 : (vp_in x6 6) ∧ (((I (a0 + 24) x6.toNatClampNeg) ≤ x7 → ∀ y122 : Int32, y122 = x6 + 1 → hd_X9_common_222 S RET a0 x3 y122 I L) ∧ (¬ (I (a0 + 24) x6.toNatClampNeg) ≤ x7 → ∃ I127 L128, CTv mr_X9_timesHad [.ref a0, .int x6] S I L I127 L128 ∧ ∀ y131 : Int32, y131 = x7 + 1 → hd_X9_common_234 S RET a0 x3 x6 y131 I127 L128))) : hd_X9_common_234 S RET a0 x3 x6 x7 I L := by
  unfold hd_X9_common_234
  refine V.iload dX9_common_234 rfl ?_
  refine V.aload_n dX9_common_236 rfl rfl ?_
  refine V.getf (v := .ref (a0 + 24)) dX9_common_237 fl_X9_81 h0.1 (by decide) rfl ?_
  refine V.iload dX9_common_240 rfl ?_
  obtain ⟨o118, H119⟩ := H0
  refine V.iald dX9_common_242 h0.2.2.2.2.2.2.2.2.2.2.2.2.2.2.2.2.2.2.2.2.2.2.2.2.1 o118 ?_
  refine V.icmp_ge (tgt := 258) dX9_common_243 (by decide) (fun c120 => ?_) (fun c120 => ?_)
  · have H121 := H119.1 c120
    obtain ⟨y122, e123⟩ : ∃ y : Int32, y = x6 + 1 := ⟨_, rfl⟩
    have H124 := H121 y122 e123
    refine V.iinc (v := y122) (lo' := [(6, .int y122), (0, .ref a0), (3, .int x3), (7, .int x7)]) dX9_common_258 rfl (by rw [e123]; rfl) (by decide) rfl ?_
    refine V.goto (tgt := 222) dX9_common_261 (by decide) ?_
    exact V.los [1, 2, 0] rfl H124
  · have H125 := H119.2 c120
    refine V.aload_n dX9_common_246 rfl rfl ?_
    refine V.iload dX9_common_247 rfl ?_
    obtain ⟨I127, L128, t129, H130⟩ := H125
    refine V.cVv (N := mr_X9_timesHad) (as := [.int x6]) dX9_common_249 ml_X9_360 ok_X9_timesHad okV_X9_timesHad ⟨Nat.le_of_ble_eq_true rfl, Nat.le_of_ble_eq_true rfl⟩ h0.1 rfl rfl rfl (Nat.le_of_ble_eq_true rfl) t129 ?_
    obtain ⟨y131, e132⟩ : ∃ y : Int32, y = x7 + 1 := ⟨_, rfl⟩
    have H133 := H130 y131 e132
    refine V.iinc (v := y131) (lo' := [(7, .int y131), (0, .ref a0), (3, .int x3), (6, .int x6)]) dX9_common_252 rfl (by rw [e132]; rfl) (by decide) rfl ?_
    refine V.goto (tgt := 234) dX9_common_255 (by decide) ?_
    exact V.los [1, 2, 3, 0] rfl H133
set_option maxRecDepth 100000 in
set_option maxHeartbeats 4000000 in
theorem wp_X9_common {S : List mjD} {RET : Option Value → mjH → Prop} {m : Nat} (hm : is_Model S m) {a : Int32} {b : Int32} {c : Int32} {I : Nat → Nat → Int32} {L : Nat → Nat → Int64} (H0 : ∃ r1 I2 L3, CTi mr_X9_isFilled [.ref m, .int a] S I L r1 I2 L3 ∧ ((r1 = 0 → RET (some (.int (-101 : Int32))) (S, I2, L3)) ∧ (¬ r1 = 0 → ∃ r9 I10 L11, CTi mr_X9_isFilled [.ref m, .int b] S I2 L3 r9 I10 L11 ∧ ((r9 = 0 → RET (some (.int (-101 : Int32))) (S, I10, L11)) ∧ (¬ r9 = 0 → ∃ r17 I18 L19, CTi mr_X9_isSlot [.ref m, .int c] S I10 L11 r17 I18 L19 ∧ ((¬ r17 = 0 → ∃ I25 L26, CTv mr_X9_laySlot [.ref m, .int a] S I18 L19 I25 L26 ∧ ∃ I30 L31, CTv mr_X9_layFactors [.ref m] S I25 L26 I30 L31 ∧ ∃ I35 L36, CTv mr_X9_layContent [.ref m] S I30 L31 I35 L36 ∧ hd_X9_common_59 S RET m b c (0 : Int32) (mj_up I35 m 38 (I35 m 19)) (mj_up L36 m 39 (L36 m 18))) ∧ (r17 = 0 → RET (some (.int (-101 : Int32))) (S, I18, L19)))))))) : CT mr_X9_common (0, 0) [.ref m, .int a, .int b, .int c] (S, I, L) RET := by
  refine CT.of (lo := [(0, .ref m), (1, .int a), (2, .int b), (3, .int c)]) (by decide) (fun _ _ => Nat.le_of_ble_eq_true rfl) (fun _ _ => rfl) rfl ?_
  refine V.aload_n dX9_common_0 rfl rfl ?_
  refine V.iload_n dX9_common_1 rfl rfl ?_
  obtain ⟨r1, I2, L3, t4, H5⟩ := H0
  refine V.cVi (N := mr_X9_isFilled) (as := [.int a]) dX9_common_2 ml_X9_299 ok_X9_isFilled okV_X9_isFilled ⟨Nat.le_of_ble_eq_true rfl, Nat.le_of_ble_eq_true rfl⟩ hm.1 rfl rfl rfl (Nat.le_of_ble_eq_true rfl) t4 ?_
  refine V.if_eq (tgt := 24) dX9_common_5 (by decide) (fun c6 => ?_) (fun c6 => ?_)
  · have H7 := H5.1 c6
    refine V.bipush (v := (-101)) dX9_common_24 (by decide) ?_
    exact V.ret (v := some (.int (-101 : Int32))) rfl (Or.inl ⟨_, rfl, dX9_common_26, _, rfl, rfl⟩) ⟨Nat.le_refl _, Nat.le_refl _⟩ H7
  · have H8 := H5.2 c6
    refine V.aload_n dX9_common_8 rfl rfl ?_
    refine V.iload_n dX9_common_9 rfl rfl ?_
    obtain ⟨r9, I10, L11, t12, H13⟩ := H8
    refine V.cVi (N := mr_X9_isFilled) (as := [.int b]) dX9_common_10 ml_X9_299 ok_X9_isFilled okV_X9_isFilled ⟨Nat.le_of_ble_eq_true rfl, Nat.le_of_ble_eq_true rfl⟩ hm.1 rfl rfl rfl (Nat.le_of_ble_eq_true rfl) t12 ?_
    refine V.if_eq (tgt := 24) dX9_common_13 (by decide) (fun c14 => ?_) (fun c14 => ?_)
    · have H15 := H13.1 c14
      refine V.bipush (v := (-101)) dX9_common_24 (by decide) ?_
      exact V.ret (v := some (.int (-101 : Int32))) rfl (Or.inl ⟨_, rfl, dX9_common_26, _, rfl, rfl⟩) ⟨Nat.le_refl _, Nat.le_refl _⟩ H15
    · have H16 := H13.2 c14
      refine V.aload_n dX9_common_16 rfl rfl ?_
      refine V.iload_n dX9_common_17 rfl rfl ?_
      obtain ⟨r17, I18, L19, t20, H21⟩ := H16
      refine V.cVi (N := mr_X9_isSlot) (as := [.int c]) dX9_common_18 ml_X9_177 ok_X9_isSlot okV_X9_isSlot ⟨Nat.le_of_ble_eq_true rfl, Nat.le_of_ble_eq_true rfl⟩ hm.1 rfl rfl rfl (Nat.le_of_ble_eq_true rfl) t20 ?_
      refine V.if_ne (tgt := 27) dX9_common_21 (by decide) (fun c22 => ?_) (fun c22 => ?_)
      · have H23 := H21.1 c22
        refine V.aload_n dX9_common_27 rfl rfl ?_
        refine V.iload_n dX9_common_28 rfl rfl ?_
        obtain ⟨I25, L26, t27, H28⟩ := H23
        refine V.cVv (N := mr_X9_laySlot) (as := [.int a]) dX9_common_29 ml_X9_305 ok_X9_laySlot okV_X9_laySlot ⟨Nat.le_of_ble_eq_true rfl, Nat.le_of_ble_eq_true rfl⟩ hm.1 rfl rfl rfl (Nat.le_of_ble_eq_true rfl) t27 ?_
        refine V.aload_n dX9_common_32 rfl rfl ?_
        obtain ⟨I30, L31, t32, H33⟩ := H28
        refine V.cVv (N := mr_X9_layFactors) (as := []) dX9_common_33 ml_X9_249 ok_X9_layFactors okV_X9_layFactors ⟨Nat.le_of_ble_eq_true rfl, Nat.le_of_ble_eq_true rfl⟩ hm.1 rfl rfl rfl (Nat.le_of_ble_eq_true rfl) t32 ?_
        refine V.aload_n dX9_common_36 rfl rfl ?_
        obtain ⟨I35, L36, t37, H38⟩ := H33
        refine V.cVv (N := mr_X9_layContent) (as := []) dX9_common_37 ml_X9_240 ok_X9_layContent okV_X9_layContent ⟨Nat.le_of_ble_eq_true rfl, Nat.le_of_ble_eq_true rfl⟩ hm.1 rfl rfl rfl (Nat.le_of_ble_eq_true rfl) t37 ?_
        refine V.aload_n dX9_common_40 rfl rfl ?_
        refine V.aload_n dX9_common_41 rfl rfl ?_
        refine V.getf (v := .int (I35 m 19)) dX9_common_42 fl_X9_191 hm.1 (by decide) rfl ?_
        refine V.puti dX9_common_45 fl_X9_351 fp_X9_351 (Or.inl rfl) hm.1 (by decide) rfl rfl ?_
        refine V.aload_n dX9_common_48 rfl rfl ?_
        refine V.aload_n dX9_common_49 rfl rfl ?_
        refine V.getf (v := .long (L36 m 18)) dX9_common_50 fl_X9_230 hm.1 (by decide) rfl ?_
        refine V.putl dX9_common_53 fl_X9_354 fp_X9_354 rfl hm.1 (by decide) ?_
        refine V.iconst (v := (0)) dX9_common_56 (by decide) ?_
        refine V.istore (lo' := [(4, .int (0 : Int32)), (0, .ref m), (1, .int a), (2, .int b), (3, .int c)]) dX9_common_57 (by decide) rfl ?_
        exact V.los [1, 3, 4, 0] rfl H38
      · have H39 := H21.2 c22
        refine V.bipush (v := (-101)) dX9_common_24 (by decide) ?_
        exact V.ret (v := some (.int (-101 : Int32))) rfl (Or.inl ⟨_, rfl, dX9_common_26, _, rfl, rfl⟩) ⟨Nat.le_refl _, Nat.le_refl _⟩ H39
def hd_X9_slope_38 (S : List mjD) (RET : Option Value → mjH → Prop) (a0 : Nat) (x1 : Int32) (x2 : Int32) (x3 : Int32) (I : Nat → Nat → Int32) (L : Nat → Nat → Int64) : Prop := V mr_X9_slope (0, 0) RET 38 [(0, .ref a0), (1, .int x1), (2, .int x2), (3, .int x3)] [] (S, I, L) (0, 0)
set_option maxRecDepth 100000 in
set_option maxHeartbeats 4000000 in
theorem it_X9_slope_38 {S : List mjD} {RET : Option Value → mjH → Prop} {a0 : Nat} (h0 : is_Model S a0) {x1 : Int32} {x2 : Int32} {x3 : Int32} {I : Nat → Nat → Int32} {L : Nat → Nat → Int64} (H0 : (((6 : Int32) ≤ x3 → ∃ r29 I30 L31, CTi mr_X9_keep [.ref a0, .int x2] S I L r29 I30 L31 ∧ RET (some (.int r29)) (S, I30, L31)) ∧ (¬ (6 : Int32) ≤ x3 → (vp_in (((6 : Int32) * x1) + x3) 24) ∧ (vp_in (x3 - (1 : Int32)) 6) ∧ ∀ y39 : Int32, y39 = x3 + 1 → hd_X9_slope_38 S RET a0 x1 x2 y39 I (mj_up L (a0 + 10) (x3 - (1 : Int32)).toNatClampNeg ((L (a0 + 2) (((6 : Int32) * x1) + x3).toNatClampNeg) * x3.toInt64))))) : hd_X9_slope_38 S RET a0 x1 x2 x3 I L := by
  unfold hd_X9_slope_38
  refine V.iload_n dX9_slope_38 rfl rfl ?_
  refine V.bipush (v := (6)) dX9_slope_39 (by decide) ?_
  refine V.icmp_ge (tgt := 72) dX9_slope_41 (by decide) (fun c27 => ?_) (fun c27 => ?_)
  · have H28 := H0.1 c27
    refine V.aload_n dX9_slope_72 rfl rfl ?_
    refine V.iload_n dX9_slope_73 rfl rfl ?_
    obtain ⟨r29, I30, L31, t32, H33⟩ := H28
    refine V.cVi (N := mr_X9_keep) (as := [.int x2]) dX9_slope_74 ml_X9_280 ok_X9_keep okV_X9_keep ⟨Nat.le_of_ble_eq_true rfl, Nat.le_of_ble_eq_true rfl⟩ h0.1 rfl rfl rfl (Nat.le_of_ble_eq_true rfl) t32 ?_
    exact V.ret (v := some (.int r29)) rfl (Or.inl ⟨_, rfl, dX9_slope_77, _, rfl, rfl⟩) ⟨Nat.le_refl _, Nat.le_refl _⟩ H33
  · have H34 := H0.2 c27
    refine V.aload_n dX9_slope_44 rfl rfl ?_
    refine V.getf (v := .ref (a0 + 10)) dX9_slope_45 fl_X9_39 h0.1 (by decide) rfl ?_
    refine V.iload_n dX9_slope_48 rfl rfl ?_
    refine V.iconst (v := (1)) dX9_slope_49 (by decide) ?_
    refine V.isub dX9_slope_50 ?_
    refine V.aload_n dX9_slope_51 rfl rfl ?_
    refine V.getf (v := .ref (a0 + 2)) dX9_slope_52 fl_X9_13 h0.1 (by decide) rfl ?_
    refine V.bipush (v := (6)) dX9_slope_55 (by decide) ?_
    refine V.iload_n dX9_slope_57 rfl rfl ?_
    refine V.imul dX9_slope_58 ?_
    refine V.iload_n dX9_slope_59 rfl rfl ?_
    refine V.iadd dX9_slope_60 ?_
    obtain ⟨o35, H36⟩ := H34
    refine V.lald dX9_slope_61 h0.2.2.1 o35 ?_
    refine V.iload_n dX9_slope_62 rfl rfl ?_
    refine V.i2l dX9_slope_63 ?_
    refine V.lmul dX9_slope_64 ?_
    obtain ⟨o37, H38⟩ := H36
    refine V.last dX9_slope_65 h0.2.2.2.2.2.2.2.2.2.2.1 o37 ?_
    obtain ⟨y39, e40⟩ : ∃ y : Int32, y = x3 + 1 := ⟨_, rfl⟩
    have H41 := H38 y39 e40
    refine V.iinc (v := y39) (lo' := [(3, .int y39), (0, .ref a0), (1, .int x1), (2, .int x2)]) dX9_slope_66 rfl (by rw [e40]; rfl) (by decide) rfl ?_
    refine V.goto (tgt := 38) dX9_slope_69 (by decide) ?_
    exact V.los [1, 2, 3, 0] rfl H41
set_option maxRecDepth 100000 in
set_option maxHeartbeats 4000000 in
theorem wp_X9_slope {S : List mjD} {RET : Option Value → mjH → Prop} {m : Nat} (hm : is_Model S m) {a : Int32} {b : Int32} {I : Nat → Nat → Int32} {L : Nat → Nat → Int64} (H0 : ∃ r1 I2 L3, CTi mr_X9_isFilled [.ref m, .int a] S I L r1 I2 L3 ∧ ((r1 = 0 → RET (some (.int (-101 : Int32))) (S, I2, L3)) ∧ (¬ r1 = 0 → ∃ r9 I10 L11, CTi mr_X9_isSlot [.ref m, .int b] S I2 L3 r9 I10 L11 ∧ ((¬ r9 = 0 → (vp_in a 4) ∧ ((¬ (I10 (m + 3) a.toNatClampNeg) = 0 → ∃ I21 L22, CTv mr_X9_become [.ref m, .long (0 : Int64)] S I10 L11 I21 L22 ∧ hd_X9_slope_38 S RET m a b (1 : Int32) I21 L22) ∧ ((I10 (m + 3) a.toNatClampNeg) = 0 → RET (some (.int (-103 : Int32))) (S, I10, L11)))) ∧ (r9 = 0 → RET (some (.int (-101 : Int32))) (S, I10, L11)))))) : CT mr_X9_slope (0, 0) [.ref m, .int a, .int b] (S, I, L) RET := by
  refine CT.of (lo := [(0, .ref m), (1, .int a), (2, .int b)]) (by decide) (fun _ _ => Nat.le_of_ble_eq_true rfl) (fun _ _ => rfl) rfl ?_
  refine V.aload_n dX9_slope_0 rfl rfl ?_
  refine V.iload_n dX9_slope_1 rfl rfl ?_
  obtain ⟨r1, I2, L3, t4, H5⟩ := H0
  refine V.cVi (N := mr_X9_isFilled) (as := [.int a]) dX9_slope_2 ml_X9_299 ok_X9_isFilled okV_X9_isFilled ⟨Nat.le_of_ble_eq_true rfl, Nat.le_of_ble_eq_true rfl⟩ hm.1 rfl rfl rfl (Nat.le_of_ble_eq_true rfl) t4 ?_
  refine V.if_eq (tgt := 16) dX9_slope_5 (by decide) (fun c6 => ?_) (fun c6 => ?_)
  · have H7 := H5.1 c6
    refine V.bipush (v := (-101)) dX9_slope_16 (by decide) ?_
    exact V.ret (v := some (.int (-101 : Int32))) rfl (Or.inl ⟨_, rfl, dX9_slope_18, _, rfl, rfl⟩) ⟨Nat.le_refl _, Nat.le_refl _⟩ H7
  · have H8 := H5.2 c6
    refine V.aload_n dX9_slope_8 rfl rfl ?_
    refine V.iload_n dX9_slope_9 rfl rfl ?_
    obtain ⟨r9, I10, L11, t12, H13⟩ := H8
    refine V.cVi (N := mr_X9_isSlot) (as := [.int b]) dX9_slope_10 ml_X9_177 ok_X9_isSlot okV_X9_isSlot ⟨Nat.le_of_ble_eq_true rfl, Nat.le_of_ble_eq_true rfl⟩ hm.1 rfl rfl rfl (Nat.le_of_ble_eq_true rfl) t12 ?_
    refine V.if_ne (tgt := 19) dX9_slope_13 (by decide) (fun c14 => ?_) (fun c14 => ?_)
    · have H15 := H13.1 c14
      refine V.aload_n dX9_slope_19 rfl rfl ?_
      refine V.getf (v := .ref (m + 3)) dX9_slope_20 fl_X9_17 hm.1 (by decide) rfl ?_
      refine V.iload_n dX9_slope_23 rfl rfl ?_
      obtain ⟨o16, H17⟩ := H15
      refine V.iald dX9_slope_24 hm.2.2.2.1 o16 ?_
      refine V.if_ne (tgt := 31) dX9_slope_25 (by decide) (fun c18 => ?_) (fun c18 => ?_)
      · have H19 := H17.1 c18
        refine V.aload_n dX9_slope_31 rfl rfl ?_
        refine V.lconst (v := 0) dX9_slope_32 (by decide) ?_
        obtain ⟨I21, L22, t23, H24⟩ := H19
        refine V.cVv (N := mr_X9_become) (as := [.long (0 : Int64)]) dX9_slope_33 ml_X9_252 ok_X9_become okV_X9_become ⟨Nat.le_of_ble_eq_true rfl, Nat.le_of_ble_eq_true rfl⟩ hm.1 rfl rfl rfl (Nat.le_of_ble_eq_true rfl) t23 ?_
        refine V.iconst (v := (1)) dX9_slope_36 (by decide) ?_
        refine V.istore_n (lo' := [(3, .int (1 : Int32)), (0, .ref m), (1, .int a), (2, .int b)]) dX9_slope_37 rfl (by decide) rfl ?_
        exact V.los [1, 2, 3, 0] rfl H24
      · have H25 := H17.2 c18
        refine V.bipush (v := (-103)) dX9_slope_28 (by decide) ?_
        exact V.ret (v := some (.int (-103 : Int32))) rfl (Or.inl ⟨_, rfl, dX9_slope_30, _, rfl, rfl⟩) ⟨Nat.le_refl _, Nat.le_refl _⟩ H25
    · have H26 := H13.2 c14
      refine V.bipush (v := (-101)) dX9_slope_16 (by decide) ?_
      exact V.ret (v := some (.int (-101 : Int32))) rfl (Or.inl ⟨_, rfl, dX9_slope_18, _, rfl, rfl⟩) ⟨Nat.le_refl _, Nat.le_refl _⟩ H26
def hd_X9_move_49 (S : List mjD) (RET : Option Value → mjH → Prop) (a0 : Nat) (x1 : Int32) (x2 : Int32) (x3 : Int32) (x4 : Int32) (I : Nat → Nat → Int32) (L : Nat → Nat → Int64) : Prop := V mr_X9_move (0, 0) RET 49 [(0, .ref a0), (1, .int x1), (2, .int x2), (3, .int x3), (4, .int x4)] [] (S, I, L) (0, 0)
def hd_X9_move_57 (S : List mjD) (RET : Option Value → mjH → Prop) (a0 : Nat) (x1 : Int32) (x2 : Int32) (x3 : Int32) (x4 : Int32) (x5 : Int32) (I : Nat → Nat → Int32) (L : Nat → Nat → Int64) : Prop := V mr_X9_move (0, 0) RET 57 [(0, .ref a0), (1, .int x1), (2, .int x2), (3, .int x3), (4, .int x4), (5, .int x5)] [] (S, I, L) (0, 0)
set_option maxRecDepth 100000 in
set_option maxHeartbeats 4000000 in
theorem it_X9_move_49 {S : List mjD} {RET : Option Value → mjH → Prop} {a0 : Nat} (h0 : is_Model S a0) {x1 : Int32} {x2 : Int32} {x3 : Int32} {x4 : Int32} {I : Nat → Nat → Int32} {L : Nat → Nat → Int64} (H0 : ((x4 < 0 → ∃ r37 I38 L39, CTi mr_X9_keep [.ref a0, .int x3] S I L r37 I38 L39 ∧ RET (some (.int r37)) (S, I38, L39)) ∧ (¬ x4 < 0 → hd_X9_move_57 S RET a0 x1 x2 x3 x4 (5 : Int32) I L))) : hd_X9_move_49 S RET a0 x1 x2 x3 x4 I L := by
  unfold hd_X9_move_49
  refine V.iload dX9_move_49 rfl ?_
  refine V.if_lt (tgt := 129) dX9_move_51 (by decide) (fun c35 => ?_) (fun c35 => ?_)
  · have H36 := H0.1 c35
    refine V.aload_n dX9_move_129 rfl rfl ?_
    refine V.iload_n dX9_move_130 rfl rfl ?_
    obtain ⟨r37, I38, L39, t40, H41⟩ := H36
    refine V.cVi (N := mr_X9_keep) (as := [.int x3]) dX9_move_131 ml_X9_280 ok_X9_keep okV_X9_keep ⟨Nat.le_of_ble_eq_true rfl, Nat.le_of_ble_eq_true rfl⟩ h0.1 rfl rfl rfl (Nat.le_of_ble_eq_true rfl) t40 ?_
    exact V.ret (v := some (.int r37)) rfl (Or.inl ⟨_, rfl, dX9_move_134, _, rfl, rfl⟩) ⟨Nat.le_refl _, Nat.le_refl _⟩ H41
  · have H42 := H0.2 c35
    refine V.iconst (v := (5)) dX9_move_54 (by decide) ?_
    refine V.istore (lo' := [(5, .int (5 : Int32)), (0, .ref a0), (1, .int x1), (2, .int x2), (3, .int x3), (4, .int x4)]) dX9_move_55 (by decide) rfl ?_
    exact V.los [1, 2, 3, 4, 5, 0] rfl H42
set_option maxRecDepth 100000 in
set_option maxHeartbeats 4000000 in
theorem it_X9_move_57 {S : List mjD} {RET : Option Value → mjH → Prop} {a0 : Nat} (h0 : is_Model S a0) {x1 : Int32} {x2 : Int32} {x3 : Int32} {x4 : Int32} {x5 : Int32} {I : Nat → Nat → Int32} {L : Nat → Nat → Int64} (H0 : ((x5 ≤ 0 → (vp_in (((6 : Int32) * x1) + x4) 24) ∧ ∀ y47 : Int32, y47 = x4 + (-1) → hd_X9_move_49 S RET a0 x1 x2 x3 y47 I (mj_up L (a0 + 10) (0 : Int32).toNatClampNeg (((L (a0 + 10) (0 : Int32).toNatClampNeg) * x2.toInt64) + (L (a0 + 2) (((6 : Int32) * x1) + x4).toNatClampNeg)))) ∧ (¬ x5 ≤ 0 → (vp_in x5 6) ∧ (vp_in (x5 - (1 : Int32)) 6) ∧ (vp_in x5 6) ∧ ∀ y57 : Int32, y57 = x5 + (-1) → hd_X9_move_57 S RET a0 x1 x2 x3 x4 y57 I (mj_up L (a0 + 10) x5.toNatClampNeg (((L (a0 + 10) x5.toNatClampNeg) * x2.toInt64) + (L (a0 + 10) (x5 - (1 : Int32)).toNatClampNeg)))))) : hd_X9_move_57 S RET a0 x1 x2 x3 x4 x5 I L := by
  unfold hd_X9_move_57
  refine V.iload dX9_move_57 rfl ?_
  refine V.if_le (tgt := 95) dX9_move_59 (by decide) (fun c43 => ?_) (fun c43 => ?_)
  · have H44 := H0.1 c43
    refine V.aload_n dX9_move_95 rfl rfl ?_
    refine V.getf (v := .ref (a0 + 10)) dX9_move_96 fl_X9_39 h0.1 (by decide) rfl ?_
    refine V.iconst (v := (0)) dX9_move_99 (by decide) ?_
    refine V.aload_n dX9_move_100 rfl rfl ?_
    refine V.getf (v := .ref (a0 + 10)) dX9_move_101 fl_X9_39 h0.1 (by decide) rfl ?_
    refine V.iconst (v := (0)) dX9_move_104 (by decide) ?_
    refine V.lald dX9_move_105 h0.2.2.2.2.2.2.2.2.2.2.1 (mj_lit (by decide)) ?_
    refine V.iload_n dX9_move_106 rfl rfl ?_
    refine V.i2l dX9_move_107 ?_
    refine V.lmul dX9_move_108 ?_
    refine V.aload_n dX9_move_109 rfl rfl ?_
    refine V.getf (v := .ref (a0 + 2)) dX9_move_110 fl_X9_13 h0.1 (by decide) rfl ?_
    refine V.bipush (v := (6)) dX9_move_113 (by decide) ?_
    refine V.iload_n dX9_move_115 rfl rfl ?_
    refine V.imul dX9_move_116 ?_
    refine V.iload dX9_move_117 rfl ?_
    refine V.iadd dX9_move_119 ?_
    obtain ⟨o45, H46⟩ := H44
    refine V.lald dX9_move_120 h0.2.2.1 o45 ?_
    refine V.ladd dX9_move_121 ?_
    refine V.last dX9_move_122 h0.2.2.2.2.2.2.2.2.2.2.1 (mj_lit (by decide)) ?_
    obtain ⟨y47, e48⟩ : ∃ y : Int32, y = x4 + (-1) := ⟨_, rfl⟩
    have H49 := H46 y47 e48
    refine V.iinc (v := y47) (lo' := [(4, .int y47), (0, .ref a0), (1, .int x1), (2, .int x2), (3, .int x3), (5, .int x5)]) dX9_move_123 rfl (by rw [e48]; rfl) (by decide) rfl ?_
    refine V.goto (tgt := 49) dX9_move_126 (by decide) ?_
    exact V.los [1, 2, 3, 4, 0] rfl H49
  · have H50 := H0.2 c43
    refine V.aload_n dX9_move_62 rfl rfl ?_
    refine V.getf (v := .ref (a0 + 10)) dX9_move_63 fl_X9_39 h0.1 (by decide) rfl ?_
    refine V.iload dX9_move_66 rfl ?_
    refine V.aload_n dX9_move_68 rfl rfl ?_
    refine V.getf (v := .ref (a0 + 10)) dX9_move_69 fl_X9_39 h0.1 (by decide) rfl ?_
    refine V.iload dX9_move_72 rfl ?_
    obtain ⟨o51, H52⟩ := H50
    refine V.lald dX9_move_74 h0.2.2.2.2.2.2.2.2.2.2.1 o51 ?_
    refine V.iload_n dX9_move_75 rfl rfl ?_
    refine V.i2l dX9_move_76 ?_
    refine V.lmul dX9_move_77 ?_
    refine V.aload_n dX9_move_78 rfl rfl ?_
    refine V.getf (v := .ref (a0 + 10)) dX9_move_79 fl_X9_39 h0.1 (by decide) rfl ?_
    refine V.iload dX9_move_82 rfl ?_
    refine V.iconst (v := (1)) dX9_move_84 (by decide) ?_
    refine V.isub dX9_move_85 ?_
    obtain ⟨o53, H54⟩ := H52
    refine V.lald dX9_move_86 h0.2.2.2.2.2.2.2.2.2.2.1 o53 ?_
    refine V.ladd dX9_move_87 ?_
    obtain ⟨o55, H56⟩ := H54
    refine V.last dX9_move_88 h0.2.2.2.2.2.2.2.2.2.2.1 o55 ?_
    obtain ⟨y57, e58⟩ : ∃ y : Int32, y = x5 + (-1) := ⟨_, rfl⟩
    have H59 := H56 y57 e58
    refine V.iinc (v := y57) (lo' := [(5, .int y57), (0, .ref a0), (1, .int x1), (2, .int x2), (3, .int x3), (4, .int x4)]) dX9_move_89 rfl (by rw [e58]; rfl) (by decide) rfl ?_
    refine V.goto (tgt := 57) dX9_move_92 (by decide) ?_
    exact V.los [1, 2, 3, 4, 5, 0] rfl H59
set_option maxRecDepth 100000 in
set_option maxHeartbeats 4000000 in
theorem wp_X9_move {S : List mjD} {RET : Option Value → mjH → Prop} {m : Nat} (hm : is_Model S m) {a : Int32} {b : Int32} {c : Int32} {I : Nat → Nat → Int32} {L : Nat → Nat → Int64} (H0 : ∃ r1 I2 L3, CTi mr_X9_isFilled [.ref m, .int a] S I L r1 I2 L3 ∧ ((r1 = 0 → RET (some (.int (-101 : Int32))) (S, I2, L3)) ∧ (¬ r1 = 0 → ∃ r9 I10 L11, CTi mr_X9_isSlot [.ref m, .int c] S I2 L3 r9 I10 L11 ∧ ((¬ r9 = 0 → ∃ r16 I17 L18, CTi mr_X9_within [.long b.toInt64, .long (-9 : Int64), .long (9 : Int64)] S I10 L11 r16 I17 L18 ∧ ((¬ r16 = 0 → ∃ I24 L25, CTv mr_X9_become [.ref m, .long (0 : Int64)] S I17 L18 I24 L25 ∧ (vp_in a 4) ∧ ∀ y30 : Int32, y30 = (I24 (m + 3) a.toNatClampNeg) → hd_X9_move_49 S RET m a b c y30 I24 L25) ∧ (r16 = 0 → RET (some (.int (-102 : Int32))) (S, I17, L18)))) ∧ (r9 = 0 → RET (some (.int (-101 : Int32))) (S, I10, L11)))))) : CT mr_X9_move (0, 0) [.ref m, .int a, .int b, .int c] (S, I, L) RET := by
  refine CT.of (lo := [(0, .ref m), (1, .int a), (2, .int b), (3, .int c)]) (by decide) (fun _ _ => Nat.le_of_ble_eq_true rfl) (fun _ _ => rfl) rfl ?_
  refine V.aload_n dX9_move_0 rfl rfl ?_
  refine V.iload_n dX9_move_1 rfl rfl ?_
  obtain ⟨r1, I2, L3, t4, H5⟩ := H0
  refine V.cVi (N := mr_X9_isFilled) (as := [.int a]) dX9_move_2 ml_X9_299 ok_X9_isFilled okV_X9_isFilled ⟨Nat.le_of_ble_eq_true rfl, Nat.le_of_ble_eq_true rfl⟩ hm.1 rfl rfl rfl (Nat.le_of_ble_eq_true rfl) t4 ?_
  refine V.if_eq (tgt := 16) dX9_move_5 (by decide) (fun c6 => ?_) (fun c6 => ?_)
  · have H7 := H5.1 c6
    refine V.bipush (v := (-101)) dX9_move_16 (by decide) ?_
    exact V.ret (v := some (.int (-101 : Int32))) rfl (Or.inl ⟨_, rfl, dX9_move_18, _, rfl, rfl⟩) ⟨Nat.le_refl _, Nat.le_refl _⟩ H7
  · have H8 := H5.2 c6
    refine V.aload_n dX9_move_8 rfl rfl ?_
    refine V.iload_n dX9_move_9 rfl rfl ?_
    obtain ⟨r9, I10, L11, t12, H13⟩ := H8
    refine V.cVi (N := mr_X9_isSlot) (as := [.int c]) dX9_move_10 ml_X9_177 ok_X9_isSlot okV_X9_isSlot ⟨Nat.le_of_ble_eq_true rfl, Nat.le_of_ble_eq_true rfl⟩ hm.1 rfl rfl rfl (Nat.le_of_ble_eq_true rfl) t12 ?_
    refine V.if_ne (tgt := 19) dX9_move_13 (by decide) (fun c14 => ?_) (fun c14 => ?_)
    · have H15 := H13.1 c14
      refine V.iload_n dX9_move_19 rfl rfl ?_
      refine V.i2l dX9_move_20 ?_
      refine V.ldc2 kc_X9_343 dX9_move_21 ?_
      refine V.ldc2 kc_X9_293 dX9_move_24 ?_
      obtain ⟨r16, I17, L18, t19, H20⟩ := H15
      refine V.cSi (N := mr_X9_within) (as := [.long b.toInt64, .long (-9 : Int64), .long (9 : Int64)]) dX9_move_27 ml_X9_116 ok_X9_within okS_X9_within ⟨Nat.le_of_ble_eq_true rfl, Nat.le_of_ble_eq_true rfl⟩ rfl rfl (Nat.le_of_ble_eq_true rfl) t19 ?_
      refine V.if_ne (tgt := 36) dX9_move_30 (by decide) (fun c21 => ?_) (fun c21 => ?_)
      · have H22 := H20.1 c21
        refine V.aload_n dX9_move_36 rfl rfl ?_
        refine V.lconst (v := 0) dX9_move_37 (by decide) ?_
        obtain ⟨I24, L25, t26, H27⟩ := H22
        refine V.cVv (N := mr_X9_become) (as := [.long (0 : Int64)]) dX9_move_38 ml_X9_252 ok_X9_become okV_X9_become ⟨Nat.le_of_ble_eq_true rfl, Nat.le_of_ble_eq_true rfl⟩ hm.1 rfl rfl rfl (Nat.le_of_ble_eq_true rfl) t26 ?_
        refine V.aload_n dX9_move_41 rfl rfl ?_
        refine V.getf (v := .ref (m + 3)) dX9_move_42 fl_X9_17 hm.1 (by decide) rfl ?_
        refine V.iload_n dX9_move_45 rfl rfl ?_
        obtain ⟨o28, H29⟩ := H27
        refine V.iald dX9_move_46 hm.2.2.2.1 o28 ?_
        refine V.topi (fun y30 e31 => ?_)
        have H32 := H29 y30 e31
        refine V.istore (lo' := [(4, .int y30), (0, .ref m), (1, .int a), (2, .int b), (3, .int c)]) dX9_move_47 (by decide) rfl ?_
        exact V.los [1, 2, 3, 4, 0] rfl H32
      · have H33 := H20.2 c21
        refine V.bipush (v := (-102)) dX9_move_33 (by decide) ?_
        exact V.ret (v := some (.int (-102 : Int32))) rfl (Or.inl ⟨_, rfl, dX9_move_35, _, rfl, rfl⟩) ⟨Nat.le_refl _, Nat.le_refl _⟩ H33
    · have H34 := H13.2 c14
      refine V.bipush (v := (-101)) dX9_move_16 (by decide) ?_
      exact V.ret (v := some (.int (-101 : Int32))) rfl (Or.inl ⟨_, rfl, dX9_move_18, _, rfl, rfl⟩) ⟨Nat.le_refl _, Nat.le_refl _⟩ H34
set_option maxRecDepth 100000 in
set_option maxHeartbeats 4000000 in
theorem wp_X9_count {S : List mjD} {RET : Option Value → mjH → Prop} {m : Nat} (hm : is_Model S m) {a : Int32} {I : Nat → Nat → Int32} {L : Nat → Nat → Int64} (H0 : ∃ r1 I2 L3, CTi mr_X9_howMany [.ref m, .int a] S I L r1 I2 L3 ∧ RET (some (.int r1)) (S, I2, L3)) : CT mr_X9_count (0, 0) [.ref m, .int a] (S, I, L) RET := by
  refine CT.of (lo := [(0, .ref m), (1, .int a)]) (by decide) (fun _ _ => Nat.le_of_ble_eq_true rfl) (fun _ _ => rfl) rfl ?_
  refine V.aload_n dX9_count_0 rfl rfl ?_
  refine V.iload_n dX9_count_1 rfl rfl ?_
  obtain ⟨r1, I2, L3, t4, H5⟩ := H0
  refine V.cVi (N := mr_X9_howMany) (as := [.int a]) dX9_count_2 ml_X9_445 ok_X9_howMany okV_X9_howMany ⟨Nat.le_of_ble_eq_true rfl, Nat.le_of_ble_eq_true rfl⟩ hm.1 rfl rfl rfl (Nat.le_of_ble_eq_true rfl) t4 ?_
  exact V.ret (v := some (.int r1)) rfl (Or.inl ⟨_, rfl, dX9_count_5, _, rfl, rfl⟩) ⟨Nat.le_refl _, Nat.le_refl _⟩ H5
def hd_X9_digest_9 (S : List mjD) (RET : Option Value → mjH → Prop) (a0 : Nat) (x1 : Int32) (I : Nat → Nat → Int32) (L : Nat → Nat → Int64) : Prop := V mr_X9_digest (0, 0) RET 9 [(0, .ref a0), (1, .int x1)] [] (S, I, L) (0, 0)
def hd_X9_digest_64 (S : List mjD) (RET : Option Value → mjH → Prop) (a0 : Nat) (x1 : Int32) (I : Nat → Nat → Int32) (L : Nat → Nat → Int64) : Prop := V mr_X9_digest (0, 0) RET 64 [(0, .ref a0), (1, .int x1)] [] (S, I, L) (0, 0)
def hd_X9_digest_19 (S : List mjD) (RET : Option Value → mjH → Prop) (a0 : Nat) (x1 : Int32) (x2 : Int32) (I : Nat → Nat → Int32) (L : Nat → Nat → Int64) : Prop := V mr_X9_digest (0, 0) RET 19 [(0, .ref a0), (1, .int x1), (2, .int x2)] [] (S, I, L) (0, 0)
def hd_X9_digest_91 (S : List mjD) (RET : Option Value → mjH → Prop) (a0 : Nat) (x1 : Int32) (I : Nat → Nat → Int32) (L : Nat → Nat → Int64) : Prop := V mr_X9_digest (0, 0) RET 91 [(0, .ref a0), (1, .int x1)] [] (S, I, L) (0, 0)
set_option maxRecDepth 100000 in
set_option maxHeartbeats 4000000 in
theorem it_X9_digest_9 {S : List mjD} {RET : Option Value → mjH → Prop} {a0 : Nat} (h0 : is_Model S a0) {x1 : Int32} {I : Nat → Nat → Int32} {L : Nat → Nat → Int64} (H0 : (((I a0 1) ≤ x1 → hd_X9_digest_64 S RET a0 (0 : Int32) I L) ∧ (¬ (I a0 1) ≤ x1 → hd_X9_digest_19 S RET a0 x1 (0 : Int32) I L))) : hd_X9_digest_9 S RET a0 x1 I L := by
  unfold hd_X9_digest_9
  refine V.iload_n dX9_digest_9 rfl rfl ?_
  refine V.aload_n dX9_digest_10 rfl rfl ?_
  refine V.getf (v := .int (I a0 1)) dX9_digest_11 fl_X9_168 h0.1 (by decide) rfl ?_
  refine V.icmp_ge (tgt := 62) dX9_digest_14 (by decide) (fun c1 => ?_) (fun c1 => ?_)
  · have H2 := H0.1 c1
    refine V.iconst (v := (0)) dX9_digest_62 (by decide) ?_
    refine V.istore_n (lo' := [(1, .int (0 : Int32)), (0, .ref a0)]) dX9_digest_63 rfl (by decide) rfl ?_
    exact V.los [1, 0] rfl H2
  · have H3 := H0.2 c1
    refine V.iconst (v := (0)) dX9_digest_17 (by decide) ?_
    refine V.istore_n (lo' := [(2, .int (0 : Int32)), (0, .ref a0), (1, .int x1)]) dX9_digest_18 rfl (by decide) rfl ?_
    exact V.los [1, 2, 0] rfl H3
set_option maxRecDepth 100000 in
set_option maxHeartbeats 4000000 in
theorem it_X9_digest_64 {S : List mjD} {RET : Option Value → mjH → Prop} {a0 : Nat} (h0 : is_Model S a0) {x1 : Int32} {I : Nat → Nat → Int32} {L : Nat → Nat → Int64} (H0 : (((I a0 9) ≤ x1 → hd_X9_digest_91 S RET a0 (0 : Int32) I L) ∧ (¬ (I a0 9) ≤ x1 → (vp_in x1 40) ∧ ∃ I10 L11, CTv mr_X9_mix [.ref a0, .long ((I (a0 + 7) x1.toNatClampNeg).toInt64)] S I L I10 L11 ∧ ∀ y14 : Int32, y14 = x1 + 1 → hd_X9_digest_64 S RET a0 y14 I10 L11))) : hd_X9_digest_64 S RET a0 x1 I L := by
  unfold hd_X9_digest_64
  refine V.iload_n dX9_digest_64 rfl rfl ?_
  refine V.aload_n dX9_digest_65 rfl rfl ?_
  refine V.getf (v := .int (I a0 9)) dX9_digest_66 fl_X9_120 h0.1 (by decide) rfl ?_
  refine V.icmp_ge (tgt := 89) dX9_digest_69 (by decide) (fun c4 => ?_) (fun c4 => ?_)
  · have H5 := H0.1 c4
    refine V.iconst (v := (0)) dX9_digest_89 (by decide) ?_
    refine V.istore_n (lo' := [(1, .int (0 : Int32)), (0, .ref a0)]) dX9_digest_90 rfl (by decide) rfl ?_
    exact V.los [1, 0] rfl H5
  · have H6 := H0.2 c4
    refine V.aload_n dX9_digest_72 rfl rfl ?_
    refine V.aload_n dX9_digest_73 rfl rfl ?_
    refine V.getf (v := .ref (a0 + 7)) dX9_digest_74 fl_X9_29 h0.1 (by decide) rfl ?_
    refine V.iload_n dX9_digest_77 rfl rfl ?_
    obtain ⟨o7, H8⟩ := H6
    refine V.bald dX9_digest_78 h0.2.2.2.2.2.2.2.1 o7 ?_
    refine V.i2l dX9_digest_79 ?_
    obtain ⟨I10, L11, t12, H13⟩ := H8
    refine V.cVv (N := mr_X9_mix) (as := [.long ((I (a0 + 7) x1.toNatClampNeg).toInt64)]) dX9_digest_80 ml_X9_453 ok_X9_mix okV_X9_mix ⟨Nat.le_of_ble_eq_true rfl, Nat.le_of_ble_eq_true rfl⟩ h0.1 rfl rfl rfl (Nat.le_of_ble_eq_true rfl) t12 ?_
    obtain ⟨y14, e15⟩ : ∃ y : Int32, y = x1 + 1 := ⟨_, rfl⟩
    have H16 := H13 y14 e15
    refine V.iinc (v := y14) (lo' := [(1, .int y14), (0, .ref a0)]) dX9_digest_83 rfl (by rw [e15]; rfl) (by decide) rfl ?_
    refine V.goto (tgt := 64) dX9_digest_86 (by decide) ?_
    exact V.los [1, 0] rfl H16
set_option maxRecDepth 100000 in
set_option maxHeartbeats 4000000 in
theorem it_X9_digest_19 {S : List mjD} {RET : Option Value → mjH → Prop} {a0 : Nat} (h0 : is_Model S a0) {x1 : Int32} {x2 : Int32} {I : Nat → Nat → Int32} {L : Nat → Nat → Int64} (H0 : (((8 : Int32) ≤ x2 → (vp_in x1 4) ∧ (((I (a0 + 3) x1.toNatClampNeg) < 0 → ∀ y23 : Int32, y23 = x1 + 1 → hd_X9_digest_9 S RET a0 y23 I L) ∧ (¬ (I (a0 + 3) x1.toNatClampNeg) < 0 → ∃ I28 L29, CTv mr_X9_mixFilled [.ref a0, .int x1] S I L I28 L29 ∧ ∀ y32 : Int32, y32 = x1 + 1 → hd_X9_digest_9 S RET a0 y32 I28 L29))) ∧ (¬ (8 : Int32) ≤ x2 → ∃ r36 I37 L38, CTi mr_X9_slotNow [.ref a0, .int x1, .int x2] S I L r36 I37 L38 ∧ ∃ I42 L43, CTv mr_X9_mix [.ref a0, .long r36.toInt64] S I37 L38 I42 L43 ∧ ∀ y46 : Int32, y46 = x2 + 1 → hd_X9_digest_19 S RET a0 x1 y46 I42 L43))) : hd_X9_digest_19 S RET a0 x1 x2 I L := by
  unfold hd_X9_digest_19
  refine V.iload_n dX9_digest_19 rfl rfl ?_
  refine V.bipush (v := (8)) dX9_digest_20 (by decide) ?_
  refine V.icmp_ge (tgt := 42) dX9_digest_22 (by decide) (fun c17 => ?_) (fun c17 => ?_)
  · have H18 := H0.1 c17
    refine V.aload_n dX9_digest_42 rfl rfl ?_
    refine V.getf (v := .ref (a0 + 3)) dX9_digest_43 fl_X9_17 h0.1 (by decide) rfl ?_
    refine V.iload_n dX9_digest_46 rfl rfl ?_
    obtain ⟨o19, H20⟩ := H18
    refine V.iald dX9_digest_47 h0.2.2.2.1 o19 ?_
    refine V.if_lt (tgt := 56) dX9_digest_48 (by decide) (fun c21 => ?_) (fun c21 => ?_)
    · have H22 := H20.1 c21
      obtain ⟨y23, e24⟩ : ∃ y : Int32, y = x1 + 1 := ⟨_, rfl⟩
      have H25 := H22 y23 e24
      refine V.iinc (v := y23) (lo' := [(1, .int y23), (0, .ref a0), (2, .int x2)]) dX9_digest_56 rfl (by rw [e24]; rfl) (by decide) rfl ?_
      refine V.goto (tgt := 9) dX9_digest_59 (by decide) ?_
      exact V.los [1, 0] rfl H25
    · have H26 := H20.2 c21
      refine V.aload_n dX9_digest_51 rfl rfl ?_
      refine V.iload_n dX9_digest_52 rfl rfl ?_
      obtain ⟨I28, L29, t30, H31⟩ := H26
      refine V.cVv (N := mr_X9_mixFilled) (as := [.int x1]) dX9_digest_53 ml_X9_458 ok_X9_mixFilled okV_X9_mixFilled ⟨Nat.le_of_ble_eq_true rfl, Nat.le_of_ble_eq_true rfl⟩ h0.1 rfl rfl rfl (Nat.le_of_ble_eq_true rfl) t30 ?_
      obtain ⟨y32, e33⟩ : ∃ y : Int32, y = x1 + 1 := ⟨_, rfl⟩
      have H34 := H31 y32 e33
      refine V.iinc (v := y32) (lo' := [(1, .int y32), (0, .ref a0), (2, .int x2)]) dX9_digest_56 rfl (by rw [e33]; rfl) (by decide) rfl ?_
      refine V.goto (tgt := 9) dX9_digest_59 (by decide) ?_
      exact V.los [1, 0] rfl H34
  · have H35 := H0.2 c17
    refine V.aload_n dX9_digest_25 rfl rfl ?_
    refine V.aload_n dX9_digest_26 rfl rfl ?_
    refine V.iload_n dX9_digest_27 rfl rfl ?_
    refine V.iload_n dX9_digest_28 rfl rfl ?_
    obtain ⟨r36, I37, L38, t39, H40⟩ := H35
    refine V.cVi (N := mr_X9_slotNow) (as := [.int x1, .int x2]) dX9_digest_29 ml_X9_329 ok_X9_slotNow okV_X9_slotNow ⟨Nat.le_of_ble_eq_true rfl, Nat.le_of_ble_eq_true rfl⟩ h0.1 rfl rfl rfl (Nat.le_of_ble_eq_true rfl) t39 ?_
    refine V.i2l dX9_digest_32 ?_
    obtain ⟨I42, L43, t44, H45⟩ := H40
    refine V.cVv (N := mr_X9_mix) (as := [.long r36.toInt64]) dX9_digest_33 ml_X9_453 ok_X9_mix okV_X9_mix ⟨Nat.le_of_ble_eq_true rfl, Nat.le_of_ble_eq_true rfl⟩ h0.1 rfl rfl rfl (Nat.le_of_ble_eq_true rfl) t44 ?_
    obtain ⟨y46, e47⟩ : ∃ y : Int32, y = x2 + 1 := ⟨_, rfl⟩
    have H48 := H45 y46 e47
    refine V.iinc (v := y46) (lo' := [(2, .int y46), (0, .ref a0), (1, .int x1)]) dX9_digest_36 rfl (by rw [e47]; rfl) (by decide) rfl ?_
    refine V.goto (tgt := 19) dX9_digest_39 (by decide) ?_
    exact V.los [1, 2, 0] rfl H48
set_option maxRecDepth 100000 in
set_option maxHeartbeats 4000000 in
theorem it_X9_digest_91 {S : List mjD} {RET : Option Value → mjH → Prop} {a0 : Nat} (h0 : is_Model S a0) {x1 : Int32} {I : Nat → Nat → Int32} {L : Nat → Nat → Int64} (H0 : (((8 : Int32) ≤ x1 → RET (some (.long (L a0 57))) (S, I, L)) ∧ (¬ (8 : Int32) ≤ x1 → ∃ r52 I53 L54, CTi mr_X9_howMany [.ref a0, .int x1] S I L r52 I53 L54 ∧ ∃ I58 L59, CTv mr_X9_mix [.ref a0, .long r52.toInt64] S I53 L54 I58 L59 ∧ ∀ y62 : Int32, y62 = x1 + 1 → hd_X9_digest_91 S RET a0 y62 I58 L59))) : hd_X9_digest_91 S RET a0 x1 I L := by
  unfold hd_X9_digest_91
  refine V.iload_n dX9_digest_91 rfl rfl ?_
  refine V.bipush (v := (8)) dX9_digest_92 (by decide) ?_
  refine V.icmp_ge (tgt := 113) dX9_digest_94 (by decide) (fun c49 => ?_) (fun c49 => ?_)
  · have H50 := H0.1 c49
    refine V.aload_n dX9_digest_113 rfl rfl ?_
    refine V.getf (v := .long (L a0 57)) dX9_digest_114 fl_X9_450 h0.1 (by decide) rfl ?_
    exact V.ret (v := some (.long (L a0 57))) rfl (Or.inr (Or.inl ⟨_, rfl, dX9_digest_117, rfl⟩)) ⟨Nat.le_refl _, Nat.le_refl _⟩ H50
  · have H51 := H0.2 c49
    refine V.aload_n dX9_digest_97 rfl rfl ?_
    refine V.aload_n dX9_digest_98 rfl rfl ?_
    refine V.iload_n dX9_digest_99 rfl rfl ?_
    obtain ⟨r52, I53, L54, t55, H56⟩ := H51
    refine V.cVi (N := mr_X9_howMany) (as := [.int x1]) dX9_digest_100 ml_X9_445 ok_X9_howMany okV_X9_howMany ⟨Nat.le_of_ble_eq_true rfl, Nat.le_of_ble_eq_true rfl⟩ h0.1 rfl rfl rfl (Nat.le_of_ble_eq_true rfl) t55 ?_
    refine V.i2l dX9_digest_103 ?_
    obtain ⟨I58, L59, t60, H61⟩ := H56
    refine V.cVv (N := mr_X9_mix) (as := [.long r52.toInt64]) dX9_digest_104 ml_X9_453 ok_X9_mix okV_X9_mix ⟨Nat.le_of_ble_eq_true rfl, Nat.le_of_ble_eq_true rfl⟩ h0.1 rfl rfl rfl (Nat.le_of_ble_eq_true rfl) t60 ?_
    obtain ⟨y62, e63⟩ : ∃ y : Int32, y = x1 + 1 := ⟨_, rfl⟩
    have H64 := H61 y62 e63
    refine V.iinc (v := y62) (lo' := [(1, .int y62), (0, .ref a0)]) dX9_digest_107 rfl (by rw [e63]; rfl) (by decide) rfl ?_
    refine V.goto (tgt := 91) dX9_digest_110 (by decide) ?_
    exact V.los [1, 0] rfl H64
set_option maxRecDepth 100000 in
set_option maxHeartbeats 4000000 in
theorem wp_X9_digest {S : List mjD} {RET : Option Value → mjH → Prop} {m : Nat} (hm : is_Model S m) {I : Nat → Nat → Int32} {L : Nat → Nat → Int64} (H0 : hd_X9_digest_9 S RET m (0 : Int32) I (mj_up L m 57 (1409 : Int64))) : CT mr_X9_digest (0, 0) [.ref m] (S, I, L) RET := by
  refine CT.of (lo := [(0, .ref m)]) (by decide) (fun _ _ => Nat.le_of_ble_eq_true rfl) (fun _ _ => rfl) rfl ?_
  refine V.aload_n dX9_digest_0 rfl rfl ?_
  refine V.ldc2 kc_X9_456 dX9_digest_1 ?_
  refine V.putl dX9_digest_4 fl_X9_450 fp_X9_450 rfl hm.1 (by decide) ?_
  refine V.iconst (v := (0)) dX9_digest_7 (by decide) ?_
  refine V.istore_n (lo' := [(1, .int (0 : Int32)), (0, .ref m)]) dX9_digest_8 rfl (by decide) rfl ?_
  exact V.los [1, 0] rfl H0
