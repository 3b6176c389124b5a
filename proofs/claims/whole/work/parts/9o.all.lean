/-! THE START, AND ALL TURNS -/
def cA0 : aC := (fun _ => 0, fun _ => false, fun _ _ => 0, 0, fun _ => 0, fun _ => 0, fun _ => false)
def A00 : aS := (0, fun _ => 0, 0, 0, cA0, 0, cA0)
theorem I00_0 {b : Nat} (h : b ≠ 177) (k : Nat) : I00 b k = 0 := by
  have h2 : b ≠ 174 + 3 := by omega
  unfold I00
  rw [up_ne h2, up_ne h2, up_ne h2, up_ne h2]; rfl
theorem I00_3 : ∀ j, j < 4 → I00 (174 + 3) j = -1 := by decide +kernel
theorem ok_A00 : aOK A00 := ⟨Nat.zero_le _, fun k hk => absurd hk (Nat.not_lt_zero k), Nat.zero_le _, fun h => absurd rfl h, ⟨fun j _ => ⟨by show 0 < 5; decide, fun h => (by cases h)⟩, Nat.zero_le _, fun i hi => absurd hi (Nat.not_lt_zero i)⟩, fun h => absurd rfl h, Nat.le_refl _, by show 0 < 2 ^ 30; decide⟩
theorem IC_A00 : IC 0 A00 I00 mj_Zl := ⟨⟨I00_0 (by decide) _, fun k hk => absurd hk (Nat.not_lt_zero k)⟩, I00_0 (by decide) _, I00_0 (by decide) _, ⟨fun j hj => ⟨I00_0 (by omega) _, I00_0 (by omega) _, fun h => (by cases h)⟩, I00_0 (by decide) _, fun i hi => absurd hi (Nat.not_lt_zero i)⟩, I00_0 (by decide) _, fun h => absurd rfl h⟩
theorem IM_A00 : IM 174 A00 I00 mj_Zl := ⟨⟨I00_0 (by decide) _, fun k hk => absurd hk (Nat.not_lt_zero k)⟩, I00_0 (by decide) _, I00_0 (by decide) _, ⟨fun j hj => ⟨I00_0 (by decide) _, fun _ => I00_3 j hj, fun h => (by cases h)⟩, I00_0 (by decide) _, fun i hi => absurd hi (Nat.not_lt_zero i)⟩, I00_0 (by decide) _, fun h => absurd rfl h, Or.inl (I00_0 (by decide) _)⟩
set_option maxHeartbeats 4000000 in
theorem HL_turns {n : Nat} {xs : Nat → Int32} (hn : n ≤ 2048) : ∀ w i (A : aS) (I : Nat → Nat → Int32) (L : Nat → Nat → Int64), n ≤ i + w → i ≤ 3000 → aOK A → IC 0 A I L → IM 174 A I L → adk A ≤ i → hd_L_law_18 n xs SH (fun v _ => v = some (.int 1)) 0 174 (nI i) I L := by
  have hs : (Int32.ofNat n - (4 : Int32)).toInt = (n : Int) - 4 := pk_sub_toInt (a := n) (b := 4) (by omega) (by decide)
  have lt : ∀ i, i ≤ 3000 → ((Int32.ofNat n - (4 : Int32)) < nI i ↔ (n : Int) - 4 < i) := fun i hi => by
    rw [Int32.lt_iff_toInt_lt, hs, nI_toInt (by omega)]
  intro w
  induction w with
  | zero =>
    intro i A I L hw hi hA hC hM hk
    exact it_L_law_18 SH_desk SH_model ⟨fun _ => rfl, fun q => absurd ((lt i hi).mpr (by omega)) q⟩
  | succ w ih =>
    intro i A I L hw hi hA hC hM hk
    by_cases c : (n : Int) - 4 < i
    · exact it_L_law_18 SH_desk SH_model ⟨fun _ => rfl, fun q => absurd ((lt i hi).mpr c) q⟩
    · have v0 : vp_in (nI i) n := vp_in_nI (by omega) (by omega)
      have v1 : vp_in (nI i + (1 : Int32)) n := by rw [nI_1]; exact vp_in_nI (by omega) (by omega)
      have v2 : vp_in (nI i + (2 : Int32)) n := by rw [show nI i + (2 : Int32) = nI (i + 2) from nI_add i 2]; exact vp_in_nI (by omega) (by omega)
      have v3 : vp_in (nI i + (3 : Int32)) n := by rw [show nI i + (3 : Int32) = nI (i + 3) from nI_add i 3]; exact vp_in_nI (by omega) (by omega)
      have e4 : nI i + (4 : Int32) = nI (i + 4) := nI_add i 4
      have go : ∀ {I2 : Nat → Nat → Int32} {L2 : Nat → Nat → Int64}, nxt A I2 L2 → ∀ y : Int32, y = nI i + 4 → hd_L_law_18 n xs SH (fun v _ => v = some (.int 1)) 0 174 y I2 L2 := fun hx y hy => by
        obtain ⟨A', x1, x2, x3, x4⟩ := hx
        rw [hy, e4]
        exact ih (i + 4) A' _ _ (by omega) (by omega) x1 x2 x3 (by omega)
      obtain ⟨_, _, _, _, _, ca0, cb0, cn0⟩ := tn_letter hA hC hM (xs (nI i + (1 : Int32)).toNatClampNeg)
      obtain ⟨_, _, _, _, _, ca1, cb1, cn1⟩ := tn_blank hA hC hM
      obtain ⟨_, _, _, _, _, ca2, cb2, cn2⟩ := tn_fault hA hC hM
      obtain ⟨_, _, _, _, _, ca3, cb3, cn3⟩ := tn_desk hA hC hM (by omega)
      obtain ⟨_, _, _, _, _, ca4, cb4, cn4⟩ := tn_put hA hC hM (xs (nI i + (1 : Int32)).toNatClampNeg)
      obtain ⟨_, _, _, _, _, ca5, cb5, cn5⟩ := tn_slot hA hC hM (xs (nI i + (1 : Int32)).toNatClampNeg) (xs (nI i + (2 : Int32)).toNatClampNeg)
      obtain ⟨_, _, _, _, _, ca6, cb6, cn6⟩ := tn_as hA hC hM (xs (nI i + (1 : Int32)).toNatClampNeg) (xs (nI i + (2 : Int32)).toNatClampNeg)
      obtain ⟨_, _, _, _, _, ca7, cb7, cn7⟩ := tn_number hA hC hM (xs (nI i + (1 : Int32)).toNatClampNeg) (xs (nI i + (2 : Int32)).toNatClampNeg)
      obtain ⟨_, _, _, _, _, ca8, cb8, cn8⟩ := tn_text hA hC hM (xs (nI i + (1 : Int32)).toNatClampNeg) (xs (nI i + (2 : Int32)).toNatClampNeg)
      obtain ⟨_, _, _, _, _, ca9, cb9, cn9⟩ := tn_factor hA hC hM (xs (nI i + (1 : Int32)).toNatClampNeg) (xs (nI i + (2 : Int32)).toNatClampNeg) (xs (nI i + (3 : Int32)).toNatClampNeg)
      obtain ⟨_, _, _, _, _, ca10, cb10, cn10⟩ := tn_value hA hC hM (xs (nI i + (1 : Int32)).toNatClampNeg) (xs (nI i + (2 : Int32)).toNatClampNeg)
      obtain ⟨_, _, _, _, _, ca11, cb11, cn11⟩ := tn_add hA hC hM (xs (nI i + (1 : Int32)).toNatClampNeg) (xs (nI i + (2 : Int32)).toNatClampNeg) (xs (nI i + (3 : Int32)).toNatClampNeg)
      obtain ⟨_, _, _, _, _, ca12, cb12, cn12⟩ := tn_times hA hC hM (xs (nI i + (1 : Int32)).toNatClampNeg) (xs (nI i + (2 : Int32)).toNatClampNeg) (xs (nI i + (3 : Int32)).toNatClampNeg)
      obtain ⟨_, _, _, _, _, ca13, cb13, cn13⟩ := tn_common hA hC hM (xs (nI i + (1 : Int32)).toNatClampNeg) (xs (nI i + (2 : Int32)).toNatClampNeg) (xs (nI i + (3 : Int32)).toNatClampNeg)
      obtain ⟨_, _, _, _, _, ca14, cb14, cn14⟩ := tn_slope hA hC hM (xs (nI i + (1 : Int32)).toNatClampNeg) (xs (nI i + (2 : Int32)).toNatClampNeg)
      obtain ⟨_, _, _, _, _, ca15, cb15, cn15⟩ := tn_move hA hC hM (xs (nI i + (1 : Int32)).toNatClampNeg) (xs (nI i + (2 : Int32)).toNatClampNeg) (xs (nI i + (3 : Int32)).toNatClampNeg)
      obtain ⟨_, _, _, _, _, ca16, cb16, cn16⟩ := tn_be hA hC hM (xs (nI i + (1 : Int32)).toNatClampNeg) (xs (nI i + (2 : Int32)).toNatClampNeg)
      obtain ⟨_, _, _, _, _, ca17, cb17, cn17⟩ := tn_parts hA hC hM (xs (nI i + (1 : Int32)).toNatClampNeg) (xs (nI i + (2 : Int32)).toNatClampNeg) (xs (nI i + (3 : Int32)).toNatClampNeg)
      obtain ⟨_, _, _, _, _, ca18, cb18, cn18⟩ := tn_degrees hA hC hM (xs (nI i + (1 : Int32)).toNatClampNeg)
      have t_see0 := tn_see hA hC hM (xs (nI i + (1 : Int32)).toNatClampNeg) (xs (nI i + (2 : Int32)).toNatClampNeg) 0
      obtain ⟨_, _, _, _, _, ca19_0, cb19_0, cn19_0⟩ := t_see0
      have t_see1 := tn_see hA hC hM (xs (nI i + (1 : Int32)).toNatClampNeg) (xs (nI i + (2 : Int32)).toNatClampNeg) 1
      obtain ⟨_, _, _, _, _, ca19_1, cb19_1, cn19_1⟩ := t_see1
      obtain ⟨_, _, _, _, _, ca20, cb20, cn20⟩ := tn_forget hA hC hM
      obtain ⟨_, _, _, _, _, ca21, cb21, cn21⟩ := tn_drawn hA hC hM (xs (nI i + (1 : Int32)).toNatClampNeg) (xs (nI i + (2 : Int32)).toNatClampNeg) (xs (nI i + (3 : Int32)).toNatClampNeg)
      obtain ⟨_, _, _, _, _, ca22, cb22, cn22⟩ := tn_image hA hC hM
      obtain ⟨_, _, _, _, _, ca23, cb23, cn23⟩ := tn_restore hA hC hM
      obtain ⟨_, _, _, _, _, ca24, cb24, cn24⟩ := tn_count hA hC hM (xs (nI i + (1 : Int32)).toNatClampNeg)
      obtain ⟨_, _, _, _, _, ca25, cb25, cn25⟩ := tn_digest hA hC hM
      exact it_L_law_18 SH_desk SH_model ⟨fun _ => rfl, fun _ => ⟨v0, fun y6 _ => ⟨fun _ => ⟨v1, _, _, _, ca0, v1, _, _, _, cb0, fun _ y hy => go cn0 y hy, fun q => absurd rfl q⟩,
        fun _ => ⟨_, _, _, ca1, _, _, _, cb1, fun _ y hy => go cn1 y hy, fun q => absurd rfl q⟩,
        fun _ => ⟨_, _, _, ca2, _, _, _, cb2, fun _ y hy => go cn2 y hy, fun q => absurd rfl q⟩,
        fun _ => ⟨_, _, _, ca3, _, _, _, cb3, fun _ y hy => go cn3 y hy, fun q => absurd rfl q⟩,
        fun _ => ⟨v1, _, _, _, ca4, v1, _, _, _, cb4, fun _ y hy => go cn4 y hy, fun q => absurd rfl q⟩,
        fun _ => ⟨v1, v2, _, _, _, ca5, v1, v2, _, _, _, cb5, fun _ y hy => go cn5 y hy, fun q => absurd rfl q⟩,
        fun _ => ⟨v1, v2, _, _, _, ca6, v1, v2, _, _, _, cb6, fun _ y hy => go cn6 y hy, fun q => absurd rfl q⟩,
        fun _ => ⟨v1, v2, _, _, _, ca7, v1, v2, _, _, _, cb7, fun _ y hy => go cn7 y hy, fun q => absurd rfl q⟩,
        fun _ => ⟨v1, v2, _, _, _, ca8, v1, v2, _, _, _, cb8, fun _ y hy => go cn8 y hy, fun q => absurd rfl q⟩,
        fun _ => ⟨v1, v2, v3, _, _, _, ca9, v1, v2, v3, _, _, _, cb9, fun _ y hy => go cn9 y hy, fun q => absurd rfl q⟩,
        fun _ => ⟨v1, v2, _, _, _, ca10, v1, v2, _, _, _, cb10, fun _ y hy => go cn10 y hy, fun q => absurd rfl q⟩,
        fun _ => ⟨v1, v2, v3, _, _, _, ca11, v1, v2, v3, _, _, _, cb11, fun _ y hy => go cn11 y hy, fun q => absurd rfl q⟩,
        fun _ => ⟨v1, v2, v3, _, _, _, ca12, v1, v2, v3, _, _, _, cb12, fun _ y hy => go cn12 y hy, fun q => absurd rfl q⟩,
        fun _ => ⟨v1, v2, v3, _, _, _, ca13, v1, v2, v3, _, _, _, cb13, fun _ y hy => go cn13 y hy, fun q => absurd rfl q⟩,
        fun _ => ⟨v1, v2, _, _, _, ca14, v1, v2, _, _, _, cb14, fun _ y hy => go cn14 y hy, fun q => absurd rfl q⟩,
        fun _ => ⟨v1, v2, v3, _, _, _, ca15, v1, v2, v3, _, _, _, cb15, fun _ y hy => go cn15 y hy, fun q => absurd rfl q⟩,
        fun _ => ⟨v1, v2, _, _, _, ca16, v1, v2, _, _, _, cb16, fun _ y hy => go cn16 y hy, fun q => absurd rfl q⟩,
        fun _ => ⟨v1, v2, v3, _, _, _, ca17, v1, v2, v3, _, _, _, cb17, fun _ y hy => go cn17 y hy, fun q => absurd rfl q⟩,
        fun _ => ⟨v1, _, _, _, ca18, v1, _, _, _, cb18, fun _ y hy => go cn18 y hy, fun q => absurd rfl q⟩,
        fun _ => ⟨v1, v2, v3, fun z => ⟨_, _, _, ca19_0, v1, v2, v3, fun _ => ⟨_, _, _, cb19_0, fun _ y hy => go cn19_0 y hy, fun q => absurd rfl q⟩, fun q => absurd z q⟩, fun z => ⟨_, _, _, ca19_1, v1, v2, v3, fun q => absurd q z, fun _ => ⟨_, _, _, cb19_1, fun _ y hy => go cn19_1 y hy, fun q => absurd rfl q⟩⟩⟩,
        fun _ => ⟨_, _, _, ca20, _, _, _, cb20, fun _ y hy => go cn20 y hy, fun q => absurd rfl q⟩,
        fun _ => ⟨v1, v2, v3, _, _, _, ca21, v1, v2, v3, _, _, _, cb21, fun _ y hy => go cn21 y hy, fun q => absurd rfl q⟩,
        fun _ => ⟨_, _, _, ca22, _, _, _, cb22, fun _ y hy => go cn22 y hy, fun q => absurd rfl q⟩,
        fun _ => ⟨_, _, _, ca23, _, _, _, cb23, fun _ y hy => go cn23 y hy, fun q => absurd rfl q⟩,
        fun _ => ⟨v1, _, _, _, ca24, v1, _, _, _, cb24, fun _ y hy => go cn24 y hy, fun q => absurd rfl q⟩,
        fun _ => ⟨_, _, _, ca25, _, _, _, cb25, fun _ y hy => go cn25 y hy, fun q => absurd rfl q⟩,
        fun _ y hy => go ⟨A, hA, hC, hM, Nat.le_succ _⟩ y hy⟩⟩⟩
theorem HL_all (n : Nat) (xs : Nat → Int32) (hn : n ≤ 2048) : hd_L_law_18 n xs SH (fun v _ => v = some (.int 1)) 0 174 (0 : Int32) I00 mj_Zl := HL_turns hn n 0 A00 I00 mj_Zl (by omega) (by omega) ok_A00 IC_A00 IM_A00 (Nat.le_refl _)
