/-! CONTRACTS: a factor of degree 2 -/
variable {S : List mjD} {I : Nat → Nat → Int32} {L : Nat → Nat → Int64}
theorem div_by {x y : Int64} (h : y.toInt ∣ x.toInt) (hy : y.toInt ≠ 0) (hx : x.toInt.natAbs ≤ 999) : x.toInt = y.toInt * (x / y).toInt ∧ (x / y).toInt.natAbs ≤ 999 := by
  have e := t_div (y := x) (x := y) (by omega)
  have e2 : x.toInt = y.toInt * (x / y).toInt := by rw [e]; exact (Int.mul_tdiv_cancel' h).symm
  refine ⟨e2, ?_⟩
  rw [e, Int.natAbs_tdiv]
  exact Nat.le_trans (Nat.div_le_self _ _) hx
theorem sq_small {t : Int} (h : (t * t).natAbs < 2 ^ 62) : t.natAbs < 2 ^ 31 := by
  apply Classical.byContradiction
  intro hc
  rw [Int.natAbs_mul] at h
  have : 2 ^ 31 * 2 ^ 31 ≤ t.natAbs * t.natAbs := Nat.mul_le_mul (by omega) (by omega)
  omega
section
variable {p n : Nat}
theorem fm_at (hp : is_Factoring S p) {k : Nat} (hk : k < 6) : CTl mr_X5_at [.ref (p + 1), .int (nI k)] S I L (L (p + 1 + 1) k) I L := by
  have := s_at (S := S) (I := I) (L := L) hp.2.1 (nI k)
  rwa [pat_n hk] at this
set_option maxHeartbeats 4000000 in
theorem s_findMiddle {a c : Int64} (hp : is_Factoring S p) (hn : deg6 (L (p + 1 + 1)) n) (h45 : n = 4 ∨ n = 5) (hok : okL (L (p + 1 + 1)) n) (ha1 : 1 ≤ a.toInt) (ha : a.toInt.natAbs ≤ 999) (hc0 : c.toInt ≠ 0) (hc : c.toInt.natAbs ≤ 999) (hdn : a.toInt ∣ (L (p + 1 + 1) n).toInt) (h9 : (L (p + 1 + 1) n).toInt.natAbs ≤ 999) (h09 : (L (p + 1 + 1) 0).toInt.natAbs ≤ 999) (hd0 : c.toInt ∣ (L (p + 1 + 1) 0).toInt) (hmid : ∀ m, zdv [c.toInt, m, a.toInt] (zev (rl (L (p + 1 + 1)))) → m.natAbs ≤ 4895) :
    ∃ (b : Bool) (L1 : Nat → Nat → Int64), CTi mr_X0_findMiddle [.ref p, .long a, .long c] S I L (if b then 1 else 0) I L1 ∧ fr (fmX p) I L I L1 ∧ (b = true → ∃ m, rl (L1 (p + 3 + 1)) = [c.toInt, m, a.toInt, 0, 0, 0] ∧ m.natAbs ≤ 4895 ∧ zdv [c.toInt, m, a.toInt] (zev (rl (L (p + 1 + 1))))) ∧ (b = false → ∀ m, ¬ zdv [c.toInt, m, a.toInt] (zev (rl (L (p + 1 + 1))))) := by
  have ha0 : a.toInt ≠ 0 := by omega
  have a0 : ¬ a = 0 := fun e => ha0 (by rw [e]; rfl)
  have c0 : ¬ c = 0 := fun e => hc0 (by rw [e]; rfl)
  obtain ⟨x1, x2⟩ := div_by hdn ha0 h9
  obtain ⟨y1, y2⟩ := div_by hd0 hc0 h09
  have cd := s_degree (S := S) (I := I) (L := L) hp.2.1
  rw [deg6_dg hn] at cd
  have hR := hn.2.1
  have hal : (L (p + 1 + 1) n / a).toInt ≠ 0 := fun e => by
    rw [e] at x1
    exact t_ne0 hR (by rw [x1]; simp)
  rcases h45 with rfl | rfl
  · obtain ⟨root, r1, r2⟩ := s_sqrt (S := S) (I := I) (L := L) ((L (p + 1 + 1) 3 * L (p + 1 + 1) 3) - (((4 : Int64) * (-(L (p + 1 + 1) 4 / a))) * (a * (((a * (L (p + 1 + 1) 0 / c)) + (c * (L (p + 1 + 1) 4 / a))) - L (p + 1 + 1) 2))))
    have hsq : (-(L (p + 1 + 1) 4 / a)).toInt = -(L (p + 1 + 1) 4 / a).toInt := t_neg (by omega)
    have hl3 : (L (p + 1 + 1) 3).toInt.natAbs ≤ 999 * 5 ^ 1 := hok 3 (by decide)
    obtain ⟨b, L1, g1, g2, g3, g4⟩ := fm_core (S := S) (I := I) (L := L) (a := a) (c := c) (sq := -(L (p + 1 + 1) 4 / a)) (lin := L (p + 1 + 1) 3) (root := root) hp hn (Or.inl rfl) hok ha0 ha hc hmid r2 (by rw [hsq]; omega) (by rw [hsq]; omega) (by omega) (fun m hm => by
      have hmb := hmid m hm
      obtain ⟨w, hw⟩ := hm
      obtain ⟨q1, q2⟩ := q_co hn (by decide) ha0 hw
      have e4 := q1 4 (by decide)
      have e3 := q1 3 (by decide)
      have e2 := q1 2 (by decide)
      have e0 := q1 0 (by decide)
      simp only [vsh, q2 3 (by decide), q2 4 (by decide), Int.mul_zero, Int.add_zero, Int.zero_add] at e4 e3 e2 e0
      have w2 : zco w 2 = (L (p + 1 + 1) 4 / a).toInt := Int.eq_of_mul_eq_mul_left ha0 (by rw [← e4]; exact x1)
      have w0 : zco w 0 = (L (p + 1 + 1) 0 / c).toInt := Int.eq_of_mul_eq_mul_left hc0 (by rw [← e0]; exact y1)
      rw [w2] at e3 e2
      rw [w0] at e2
      have hma := nb hmb x2
      refine ⟨a.toInt * zco w 1 - m * (L (p + 1 + 1) 4 / a).toInt, by omega, ?_, by rw [hsq, e3]; grind⟩
      have hD : ((L (p + 1 + 1) 3 * L (p + 1 + 1) 3) - (((4 : Int64) * (-(L (p + 1 + 1) 4 / a))) * (a * (((a * (L (p + 1 + 1) 0 / c)) + (c * (L (p + 1 + 1) 4 / a))) - L (p + 1 + 1) 2)))) = Int64.ofInt (((L (p + 1 + 1) 3).toInt * (L (p + 1 + 1) 3).toInt) - ((4 * (-(L (p + 1 + 1) 4 / a).toInt)) * (a.toInt * (((a.toInt * (L (p + 1 + 1) 0 / c).toInt) + (c.toInt * (L (p + 1 + 1) 4 / a).toInt)) - (L (p + 1 + 1) 2).toInt)))) := by
        simp only [Int64.ofInt_sub, Int64.ofInt_mul, Int64.ofInt_add, Int64.ofInt_neg, Int64.ofInt_toInt]; rfl
      have hDt : ((L (p + 1 + 1) 3).toInt * (L (p + 1 + 1) 3).toInt) - ((4 * (-(L (p + 1 + 1) 4 / a).toInt)) * (a.toInt * (((a.toInt * (L (p + 1 + 1) 0 / c).toInt) + (c.toInt * (L (p + 1 + 1) 4 / a).toInt)) - (L (p + 1 + 1) 2).toInt))) = (a.toInt * zco w 1 - m * (L (p + 1 + 1) 4 / a).toInt) * (a.toInt * zco w 1 - m * (L (p + 1 + 1) 4 / a).toInt) := by
        rw [e3, e2]; grind
      have htb : (a.toInt * zco w 1 - m * (L (p + 1 + 1) 4 / a).toInt).natAbs ≤ 2 ^ 30 := by omega
      have htt := nb htb htb
      rw [hD, hDt]
      exact Int64.toInt_ofInt_of_le (by omega) (by omega))
    refine ⟨b, L1, wp_X0_findMiddle hp ⟨_, _, _, cd, fun h => absurd h a0, fun _ => ⟨fun _ => ⟨_, _, _, fm_at hp (k := 4) (by decide), a0, fun u hu => ⟨_, _, _, fm_at hp (k := 0) (by decide), c0, fun v hv => ⟨fun h => absurd rfl h, fun _ y hy => ⟨_, _, _, fm_at hp (k := 3) (by decide), _, _, _, fm_at hp (k := 2) (by decide), fun z hz => ?_⟩⟩⟩⟩, fun h => absurd h c0⟩⟩, g1, g2, g3⟩
    rw [hz, hy, hv, hu]
    exact ⟨_, _, _, r1, g4 _ (fun hb => by rw [hb]; exact ⟨rfl, rfl⟩) (fun hb => by rw [hb]; exact ⟨rfl, rfl⟩)⟩
  · obtain ⟨root, r1, r2⟩ := s_sqrt (S := S) (I := I) (L := L) ((((c * L (p + 1 + 1) 4) - ((a * a) * (L (p + 1 + 1) 0 / c))) * ((c * L (p + 1 + 1) 4) - ((a * a) * (L (p + 1 + 1) 0 / c)))) - (((4 : Int64) * ((-c) * (L (p + 1 + 1) 5 / a))) * (a * (((a * L (p + 1 + 1) 1) + ((c * c) * (L (p + 1 + 1) 5 / a))) - (c * L (p + 1 + 1) 3)))))
    have hR1 : (L (p + 1 + 1) 1).toInt.natAbs ≤ 999 := hok 1 (by decide)
    have hR3 : (L (p + 1 + 1) 3).toInt.natAbs ≤ 999 := hok 3 (by decide)
    have hR4 : (L (p + 1 + 1) 4).toInt.natAbs ≤ 999 := hok 4 (by decide)
    have hneg : (-c).toInt = -c.toInt := t_neg (by omega)
    have hsqb := nb (show (-c.toInt).natAbs ≤ 999 by omega) x2
    have hsq : ((-c) * (L (p + 1 + 1) 5 / a)).toInt = -c.toInt * (L (p + 1 + 1) 5 / a).toInt := by
      rw [t_mul (by rw [hneg, ← Int.natAbs_mul]; omega), hneg]
    have k1 := nb hc hR4
    have k2 := nb (nb ha ha) y2
    have hlin : ((c * L (p + 1 + 1) 4) - ((a * a) * (L (p + 1 + 1) 0 / c))) = Int64.ofInt ((c.toInt * (L (p + 1 + 1) 4).toInt) - ((a.toInt * a.toInt) * (L (p + 1 + 1) 0 / c).toInt)) := by
      simp only [Int64.ofInt_sub, Int64.ofInt_mul, Int64.ofInt_toInt]
    have hlinT : ((c * L (p + 1 + 1) 4) - ((a * a) * (L (p + 1 + 1) 0 / c))).toInt = (c.toInt * (L (p + 1 + 1) 4).toInt) - ((a.toInt * a.toInt) * (L (p + 1 + 1) 0 / c).toInt) := by
      rw [hlin]; exact Int64.toInt_ofInt_of_le (by omega) (by omega)
    obtain ⟨b, L1, g1, g2, g3, g4⟩ := fm_core (S := S) (I := I) (L := L) (a := a) (c := c) (sq := (-c) * (L (p + 1 + 1) 5 / a)) (lin := (c * L (p + 1 + 1) 4) - ((a * a) * (L (p + 1 + 1) 0 / c))) (root := root) hp hn (Or.inr rfl) hok ha0 ha hc hmid r2 (by rw [hsq]; exact Int.mul_ne_zero (by omega) hal) (by rw [hsq]; omega) (by rw [hlinT]; omega) (fun m hm => by
      obtain ⟨w, hw⟩ := hm
      obtain ⟨q1, q2⟩ := q_co hn (by decide) ha0 hw
      have e5 := q1 5 (by decide)
      have e4 := q1 4 (by decide)
      have e3 := q1 3 (by decide)
      have e1 := q1 1 (by decide)
      have e0 := q1 0 (by decide)
      simp only [vsh, q2 4 (by decide), q2 5 (by decide), Int.mul_zero, Int.add_zero, Int.zero_add] at e5 e4 e3 e1 e0
      have w3 : zco w 3 = (L (p + 1 + 1) 5 / a).toInt := Int.eq_of_mul_eq_mul_left ha0 (by rw [← e5]; exact x1)
      have w0 : zco w 0 = (L (p + 1 + 1) 0 / c).toInt := Int.eq_of_mul_eq_mul_left hc0 (by rw [← e0]; exact y1)
      rw [w3] at e4 e3
      rw [w0] at e1
      have hD : ((((c * L (p + 1 + 1) 4) - ((a * a) * (L (p + 1 + 1) 0 / c))) * ((c * L (p + 1 + 1) 4) - ((a * a) * (L (p + 1 + 1) 0 / c)))) - (((4 : Int64) * ((-c) * (L (p + 1 + 1) 5 / a))) * (a * (((a * L (p + 1 + 1) 1) + ((c * c) * (L (p + 1 + 1) 5 / a))) - (c * L (p + 1 + 1) 3))))) = Int64.ofInt ((((c.toInt * (L (p + 1 + 1) 4).toInt) - ((a.toInt * a.toInt) * (L (p + 1 + 1) 0 / c).toInt)) * ((c.toInt * (L (p + 1 + 1) 4).toInt) - ((a.toInt * a.toInt) * (L (p + 1 + 1) 0 / c).toInt))) - ((4 * ((-c.toInt) * (L (p + 1 + 1) 5 / a).toInt)) * (a.toInt * (((a.toInt * (L (p + 1 + 1) 1).toInt) + ((c.toInt * c.toInt) * (L (p + 1 + 1) 5 / a).toInt)) - (c.toInt * (L (p + 1 + 1) 3).toInt))))) := by
        simp only [Int64.ofInt_sub, Int64.ofInt_mul, Int64.ofInt_add, Int64.ofInt_neg, Int64.ofInt_toInt]; rfl
      generalize hα : (L (p + 1 + 1) 5 / a).toInt = α at *
      generalize hγ : (L (p + 1 + 1) 0 / c).toInt = γ at *
      have hcst : a.toInt * (((a.toInt * (L (p + 1 + 1) 1).toInt) + ((c.toInt * c.toInt) * α)) - (c.toInt * (L (p + 1 + 1) 3).toInt)) = a.toInt * a.toInt * (L (p + 1 + 1) 1).toInt + c.toInt * c.toInt * (L (p + 1 + 1) 5).toInt - a.toInt * c.toInt * (L (p + 1 + 1) 3).toInt := by rw [x1]; grind
      have hDt : (((c.toInt * (L (p + 1 + 1) 4).toInt) - ((a.toInt * a.toInt) * γ)) * ((c.toInt * (L (p + 1 + 1) 4).toInt) - ((a.toInt * a.toInt) * γ))) - ((4 * ((-c.toInt) * α)) * (a.toInt * (((a.toInt * (L (p + 1 + 1) 1).toInt) + ((c.toInt * c.toInt) * α)) - (c.toInt * (L (p + 1 + 1) 3).toInt)))) = (c.toInt * a.toInt * zco w 2 - a.toInt * a.toInt * γ - c.toInt * m * α) * (c.toInt * a.toInt * zco w 2 - a.toInt * a.toInt * γ - c.toInt * m * α) := by
        rw [e4, e3, e1]; grind
      have b1 := nb (nb ha ha) hR1
      have b2 := nb (nb hc hc) h9
      have b3 := nb (nb ha hc) hR3
      have b4 : (a.toInt * (((a.toInt * (L (p + 1 + 1) 1).toInt) + ((c.toInt * c.toInt) * α)) - (c.toInt * (L (p + 1 + 1) 3).toInt))).natAbs ≤ 3 * (999 * 999 * 999) := by rw [hcst]; omega
      have b5 : (4 * ((-c.toInt) * α)).natAbs ≤ 4 * (999 * 999) := by omega
      have b6 := nb b5 b4
      have b7 : ((c.toInt * (L (p + 1 + 1) 4).toInt) - ((a.toInt * a.toInt) * γ)).natAbs ≤ 999 * 999 + 999 * 999 * 999 := by omega
      have b8 := nb b7 b7
      have b9 : ((c.toInt * a.toInt * zco w 2 - a.toInt * a.toInt * γ - c.toInt * m * α) * (c.toInt * a.toInt * zco w 2 - a.toInt * a.toInt * γ - c.toInt * m * α)).natAbs < 2 ^ 62 := by rw [← hDt]; omega
      refine ⟨c.toInt * a.toInt * zco w 2 - a.toInt * a.toInt * γ - c.toInt * m * α, sq_small b9, ?_, ?_⟩
      · rw [hD, hDt]
        exact Int64.toInt_ofInt_of_le (by omega) (by omega)
      · rw [hlinT, hsq, e4]; grind)
    refine ⟨b, L1, wp_X0_findMiddle hp ⟨_, _, _, cd, fun h => absurd h a0, fun _ => ⟨fun _ => ⟨_, _, _, fm_at hp (k := 5) (by decide), a0, fun u hu => ⟨_, _, _, fm_at hp (k := 0) (by decide), c0, fun v hv => ⟨fun _ y hy => ⟨_, _, _, fm_at hp (k := 4) (by decide), fun y2 hy2 => ⟨_, _, _, fm_at hp (k := 1) (by decide), _, _, _, fm_at hp (k := 3) (by decide), fun z hz => ?_⟩⟩, fun h => absurd h (by decide)⟩⟩⟩, fun h => absurd h c0⟩⟩, g1, g2, g3⟩
    rw [hz, hy2, hy, hv, hu]
    exact ⟨_, _, _, r1, g4 _ (fun hb => by rw [hb]; exact ⟨rfl, rfl⟩) (fun hb => by rw [hb]; exact ⟨rfl, rfl⟩)⟩
end
