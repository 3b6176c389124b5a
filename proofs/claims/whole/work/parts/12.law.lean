/-! THE LAW: its loop, a turn; its start -/
theorem V.dVi {M : mjM} {K k : Nat × Nat} {RET : Option Value → mjH → Prop} {pc : Nat} {lo : List (Nat × Value)} {st : List Value} {S : List mjD} {I : Nat → Nat → Int32} {L : Nat → Nat → Int64} {N : mjM} {idx a : Nat} {d : mjD} {as : List Value} {st0 : List Value} {r : Int32} {I1 : Nat → Nat → Int32} {L1 : Nat → Nat → Int64} (hd : decode (mj_b M) pc = .ok (.invokevirtual idx, 3)) (hln : Cond.methodLink (mj_y M).cls idx (mj_y N) ∈ mj_W) (hN : mj_ok N) (hV : mj_okV N) (hf : mj_f N + 1 ≤ mj_f M ∧ 8 + (mj_n N + 11) + mj_l N ≤ mj_l M) (hs : S[a]? = some d) (hcl : (vwCl[d.1]?).map (fun q => q.1) = some (mj_y N).cls) (hst : st0 = as.reverse ++ .ref a :: st) (hlen : as.length = mj_p N) (hcat : (st.map Value.category).sum ≤ 8) (hk : k.1 ≤ K.1 ∧ k.2 ≤ K.2) (hc : CTi N (.ref a :: as) S I L r I1 L1) (kk : V M K RET (pc + 3) lo (.int r :: st) (S, I1, L1) k) : V M K RET pc lo st0 (S, I, L) k := by
  refine V.callV (K1 := (0, 0)) hd hln hN hV hf hs hcl hst hlen hcat hk hc (fun v h' q => ?_)
  obtain ⟨rfl, rfl⟩ := q
  exact kk
theorem V.dVl {M : mjM} {K k : Nat × Nat} {RET : Option Value → mjH → Prop} {pc : Nat} {lo : List (Nat × Value)} {st : List Value} {S : List mjD} {I : Nat → Nat → Int32} {L : Nat → Nat → Int64} {N : mjM} {idx a : Nat} {d : mjD} {as : List Value} {st0 : List Value} {r : Int64} {I1 : Nat → Nat → Int32} {L1 : Nat → Nat → Int64} (hd : decode (mj_b M) pc = .ok (.invokevirtual idx, 3)) (hln : Cond.methodLink (mj_y M).cls idx (mj_y N) ∈ mj_W) (hN : mj_ok N) (hV : mj_okV N) (hf : mj_f N + 1 ≤ mj_f M ∧ 8 + (mj_n N + 11) + mj_l N ≤ mj_l M) (hs : S[a]? = some d) (hcl : (vwCl[d.1]?).map (fun q => q.1) = some (mj_y N).cls) (hst : st0 = as.reverse ++ .ref a :: st) (hlen : as.length = mj_p N) (hcat : (st.map Value.category).sum ≤ 8) (hk : k.1 ≤ K.1 ∧ k.2 ≤ K.2) (hc : CTl N (.ref a :: as) S I L r I1 L1) (kk : V M K RET (pc + 3) lo (.long r :: st) (S, I1, L1) k) : V M K RET pc lo st0 (S, I, L) k := by
  refine V.callV (K1 := (0, 0)) hd hln hN hV hf hs hcl hst hlen hcat hk hc (fun v h' q => ?_)
  obtain ⟨rfl, rfl⟩ := q
  exact kk
theorem mj_sw_0_25 (x : Int32) : x = 0 ∨ x = 1 ∨ x = 2 ∨ x = 3 ∨ x = 4 ∨ x = 5 ∨ x = 6 ∨ x = 7 ∨ x = 8 ∨ x = 9 ∨ x = 10 ∨ x = 11 ∨ x = 12 ∨ x = 13 ∨ x = 14 ∨ x = 15 ∨ x = 16 ∨ x = 17 ∨ x = 18 ∨ x = 19 ∨ x = 20 ∨ x = 21 ∨ x = 22 ∨ x = 23 ∨ x = 24 ∨ x = 25 ∨ (x.toInt < 0 ∨ 25 < x.toInt) := by
  simp only [← Int32.toInt_inj]
  have e : ∀ k : Nat, k < 128 → (OfNat.ofNat k : Int32).toInt = k := by decide
  simp only [e 0 (by decide), e 1 (by decide), e 2 (by decide), e 3 (by decide), e 4 (by decide), e 5 (by decide), e 6 (by decide), e 7 (by decide), e 8 (by decide), e 9 (by decide), e 10 (by decide), e 11 (by decide), e 12 (by decide), e 13 (by decide), e 14 (by decide), e 15 (by decide), e 16 (by decide), e 17 (by decide), e 18 (by decide), e 19 (by decide), e 20 (by decide), e 21 (by decide), e 22 (by decide), e 23 (by decide), e 24 (by decide), e 25 (by decide)]
  omega
def hd_L_law_18 (n : Nat) (xs : Nat → Int32) (S : List mjD) (RET : Option Value → mjH → Prop) (d m : Nat) (x3 : Int32) (I : Nat → Nat → Int32) (L : Nat → Nat → Int64) : Prop := V (mr_L_law n xs) (600000, 7302250) RET 18 [(0, .ref 1000000), (1, .ref d), (2, .ref m), (3, .int x3)] [] (S, I, L) (207, 1989)
set_option maxRecDepth 100000 in
set_option maxHeartbeats 16000000 in
theorem it_L_law_18 {n : Nat} {xs : Nat → Int32} {S : List mjD} {RET : Option Value → mjH → Prop} {d : Nat} (hd : is_Desk S d) {m : Nat} (hm : is_Model S m) {x3 : Int32} {I : Nat → Nat → Int32} {L : Nat → Nat → Int64} (H0 : ((((Int32.ofNat n) - (4 : Int32)) < x3 → RET (some (.int (1 : Int32))) (S, I, L)) ∧ (¬ ((Int32.ofNat n) - (4 : Int32)) < x3 → (vp_in x3 n) ∧ ∀ y6 : Int32, y6 = ((xs x3.toNatClampNeg) &&& (31 : Int32)) → ((y6 = 0 → (vp_in (x3 + (1 : Int32)) n) ∧ ∃ r14 I15 L16, CTi mr_X8_letter [.ref d, .int (xs (x3 + (1 : Int32)).toNatClampNeg)] S I L r14 I15 L16 ∧ (vp_in (x3 + (1 : Int32)) n) ∧ ∃ r21 I22 L23, CTi mr_X9_letter [.ref m, .int (xs (x3 + (1 : Int32)).toNatClampNeg)] S I15 L16 r21 I22 L23 ∧ ((r14 = r21 → ∀ y28 : Int32, y28 = x3 + 4 → hd_L_law_18 n xs S RET d m y28 I22 L23) ∧ (¬ r14 = r21 → RET (some (.int (0 : Int32))) (S, I22, L23)))) ∧ (y6 = 1 → ∃ r33 I34 L35, CTi mr_X8_blank [.ref d] S I L r33 I34 L35 ∧ ∃ r38 I39 L40, CTi mr_X9_blank [.ref m] S I34 L35 r38 I39 L40 ∧ ((r33 = r38 → ∀ y45 : Int32, y45 = x3 + 4 → hd_L_law_18 n xs S RET d m y45 I39 L40) ∧ (¬ r33 = r38 → RET (some (.int (0 : Int32))) (S, I39, L40)))) ∧ (y6 = 2 → ∃ r50 I51 L52, CTi mr_X8_fault [.ref d] S I L r50 I51 L52 ∧ ∃ r55 I56 L57, CTi mr_X9_fault [.ref m] S I51 L52 r55 I56 L57 ∧ ((r50 = r55 → ∀ y62 : Int32, y62 = x3 + 4 → hd_L_law_18 n xs S RET d m y62 I56 L57) ∧ (¬ r50 = r55 → RET (some (.int (0 : Int32))) (S, I56, L57)))) ∧ (y6 = 3 → ∃ r67 I68 L69, CTi mr_X8_desk [.ref d] S I L r67 I68 L69 ∧ ∃ r72 I73 L74, CTi mr_X9_desk [.ref m] S I68 L69 r72 I73 L74 ∧ ((r67 = r72 → ∀ y79 : Int32, y79 = x3 + 4 → hd_L_law_18 n xs S RET d m y79 I73 L74) ∧ (¬ r67 = r72 → RET (some (.int (0 : Int32))) (S, I73, L74)))) ∧ (y6 = 4 → (vp_in (x3 + (1 : Int32)) n) ∧ ∃ r86 I87 L88, CTi mr_X8_put [.ref d, .int (xs (x3 + (1 : Int32)).toNatClampNeg)] S I L r86 I87 L88 ∧ (vp_in (x3 + (1 : Int32)) n) ∧ ∃ r93 I94 L95, CTi mr_X9_put [.ref m, .int (xs (x3 + (1 : Int32)).toNatClampNeg)] S I87 L88 r93 I94 L95 ∧ ((r86 = r93 → ∀ y100 : Int32, y100 = x3 + 4 → hd_L_law_18 n xs S RET d m y100 I94 L95) ∧ (¬ r86 = r93 → RET (some (.int (0 : Int32))) (S, I94, L95)))) ∧ (y6 = 5 → (vp_in (x3 + (1 : Int32)) n) ∧ (vp_in (x3 + (2 : Int32)) n) ∧ ∃ r109 I110 L111, CTi mr_X8_slot [.ref d, .int (xs (x3 + (1 : Int32)).toNatClampNeg), .int (xs (x3 + (2 : Int32)).toNatClampNeg)] S I L r109 I110 L111 ∧ (vp_in (x3 + (1 : Int32)) n) ∧ (vp_in (x3 + (2 : Int32)) n) ∧ ∃ r118 I119 L120, CTi mr_X9_slot [.ref m, .int (xs (x3 + (1 : Int32)).toNatClampNeg), .int (xs (x3 + (2 : Int32)).toNatClampNeg)] S I110 L111 r118 I119 L120 ∧ ((r109 = r118 → ∀ y125 : Int32, y125 = x3 + 4 → hd_L_law_18 n xs S RET d m y125 I119 L120) ∧ (¬ r109 = r118 → RET (some (.int (0 : Int32))) (S, I119, L120)))) ∧ (y6 = 6 → (vp_in (x3 + (1 : Int32)) n) ∧ (vp_in (x3 + (2 : Int32)) n) ∧ ∃ r134 I135 L136, CTi mr_X8_as [.ref d, .int (xs (x3 + (1 : Int32)).toNatClampNeg), .int (xs (x3 + (2 : Int32)).toNatClampNeg)] S I L r134 I135 L136 ∧ (vp_in (x3 + (1 : Int32)) n) ∧ (vp_in (x3 + (2 : Int32)) n) ∧ ∃ r143 I144 L145, CTi mr_X9_as [.ref m, .int (xs (x3 + (1 : Int32)).toNatClampNeg), .int (xs (x3 + (2 : Int32)).toNatClampNeg)] S I135 L136 r143 I144 L145 ∧ ((r134 = r143 → ∀ y150 : Int32, y150 = x3 + 4 → hd_L_law_18 n xs S RET d m y150 I144 L145) ∧ (¬ r134 = r143 → RET (some (.int (0 : Int32))) (S, I144, L145)))) ∧ (y6 = 7 → (vp_in (x3 + (1 : Int32)) n) ∧ (vp_in (x3 + (2 : Int32)) n) ∧ ∃ r159 I160 L161, CTi mr_X8_number [.ref d, .int (xs (x3 + (1 : Int32)).toNatClampNeg), .int (xs (x3 + (2 : Int32)).toNatClampNeg)] S I L r159 I160 L161 ∧ (vp_in (x3 + (1 : Int32)) n) ∧ (vp_in (x3 + (2 : Int32)) n) ∧ ∃ r168 I169 L170, CTi mr_X9_number [.ref m, .int (xs (x3 + (1 : Int32)).toNatClampNeg), .int (xs (x3 + (2 : Int32)).toNatClampNeg)] S I160 L161 r168 I169 L170 ∧ ((r159 = r168 → ∀ y175 : Int32, y175 = x3 + 4 → hd_L_law_18 n xs S RET d m y175 I169 L170) ∧ (¬ r159 = r168 → RET (some (.int (0 : Int32))) (S, I169, L170)))) ∧ (y6 = 8 → (vp_in (x3 + (1 : Int32)) n) ∧ (vp_in (x3 + (2 : Int32)) n) ∧ ∃ r184 I185 L186, CTi mr_X8_text [.ref d, .int (xs (x3 + (1 : Int32)).toNatClampNeg), .int (xs (x3 + (2 : Int32)).toNatClampNeg)] S I L r184 I185 L186 ∧ (vp_in (x3 + (1 : Int32)) n) ∧ (vp_in (x3 + (2 : Int32)) n) ∧ ∃ r193 I194 L195, CTi mr_X9_text [.ref m, .int (xs (x3 + (1 : Int32)).toNatClampNeg), .int (xs (x3 + (2 : Int32)).toNatClampNeg)] S I185 L186 r193 I194 L195 ∧ ((r184 = r193 → ∀ y200 : Int32, y200 = x3 + 4 → hd_L_law_18 n xs S RET d m y200 I194 L195) ∧ (¬ r184 = r193 → RET (some (.int (0 : Int32))) (S, I194, L195)))) ∧ (y6 = 9 → (vp_in (x3 + (1 : Int32)) n) ∧ (vp_in (x3 + (2 : Int32)) n) ∧ (vp_in (x3 + (3 : Int32)) n) ∧ ∃ r211 I212 L213, CTi mr_X8_factor [.ref d, .int (xs (x3 + (1 : Int32)).toNatClampNeg), .int (xs (x3 + (2 : Int32)).toNatClampNeg), .int (xs (x3 + (3 : Int32)).toNatClampNeg)] S I L r211 I212 L213 ∧ (vp_in (x3 + (1 : Int32)) n) ∧ (vp_in (x3 + (2 : Int32)) n) ∧ (vp_in (x3 + (3 : Int32)) n) ∧ ∃ r222 I223 L224, CTi mr_X9_factor [.ref m, .int (xs (x3 + (1 : Int32)).toNatClampNeg), .int (xs (x3 + (2 : Int32)).toNatClampNeg), .int (xs (x3 + (3 : Int32)).toNatClampNeg)] S I212 L213 r222 I223 L224 ∧ ((r211 = r222 → ∀ y229 : Int32, y229 = x3 + 4 → hd_L_law_18 n xs S RET d m y229 I223 L224) ∧ (¬ r211 = r222 → RET (some (.int (0 : Int32))) (S, I223, L224)))) ∧ (y6 = 10 → (vp_in (x3 + (1 : Int32)) n) ∧ (vp_in (x3 + (2 : Int32)) n) ∧ ∃ r238 I239 L240, CTl mr_X8_value [.ref d, .int (xs (x3 + (1 : Int32)).toNatClampNeg), .int (xs (x3 + (2 : Int32)).toNatClampNeg)] S I L r238 I239 L240 ∧ (vp_in (x3 + (1 : Int32)) n) ∧ (vp_in (x3 + (2 : Int32)) n) ∧ ∃ r247 I248 L249, CTl mr_X9_value [.ref m, .int (xs (x3 + (1 : Int32)).toNatClampNeg), .int (xs (x3 + (2 : Int32)).toNatClampNeg)] S I239 L240 r247 I248 L249 ∧ ((r238 = r247 → ∀ y254 : Int32, y254 = x3 + 4 → hd_L_law_18 n xs S RET d m y254 I248 L249) ∧ (¬ r238 = r247 → RET (some (.int (0 : Int32))) (S, I248, L249)))) ∧ (y6 = 11 → (vp_in (x3 + (1 : Int32)) n) ∧ (vp_in (x3 + (2 : Int32)) n) ∧ (vp_in (x3 + (3 : Int32)) n) ∧ ∃ r265 I266 L267, CTi mr_X8_add [.ref d, .int (xs (x3 + (1 : Int32)).toNatClampNeg), .int (xs (x3 + (2 : Int32)).toNatClampNeg), .int (xs (x3 + (3 : Int32)).toNatClampNeg)] S I L r265 I266 L267 ∧ (vp_in (x3 + (1 : Int32)) n) ∧ (vp_in (x3 + (2 : Int32)) n) ∧ (vp_in (x3 + (3 : Int32)) n) ∧ ∃ r276 I277 L278, CTi mr_X9_add [.ref m, .int (xs (x3 + (1 : Int32)).toNatClampNeg), .int (xs (x3 + (2 : Int32)).toNatClampNeg), .int (xs (x3 + (3 : Int32)).toNatClampNeg)] S I266 L267 r276 I277 L278 ∧ ((r265 = r276 → ∀ y283 : Int32, y283 = x3 + 4 → hd_L_law_18 n xs S RET d m y283 I277 L278) ∧ (¬ r265 = r276 → RET (some (.int (0 : Int32))) (S, I277, L278)))) ∧ (y6 = 12 → (vp_in (x3 + (1 : Int32)) n) ∧ (vp_in (x3 + (2 : Int32)) n) ∧ (vp_in (x3 + (3 : Int32)) n) ∧ ∃ r294 I295 L296, CTi mr_X8_times [.ref d, .int (xs (x3 + (1 : Int32)).toNatClampNeg), .int (xs (x3 + (2 : Int32)).toNatClampNeg), .int (xs (x3 + (3 : Int32)).toNatClampNeg)] S I L r294 I295 L296 ∧ (vp_in (x3 + (1 : Int32)) n) ∧ (vp_in (x3 + (2 : Int32)) n) ∧ (vp_in (x3 + (3 : Int32)) n) ∧ ∃ r305 I306 L307, CTi mr_X9_times [.ref m, .int (xs (x3 + (1 : Int32)).toNatClampNeg), .int (xs (x3 + (2 : Int32)).toNatClampNeg), .int (xs (x3 + (3 : Int32)).toNatClampNeg)] S I295 L296 r305 I306 L307 ∧ ((r294 = r305 → ∀ y312 : Int32, y312 = x3 + 4 → hd_L_law_18 n xs S RET d m y312 I306 L307) ∧ (¬ r294 = r305 → RET (some (.int (0 : Int32))) (S, I306, L307)))) ∧ (y6 = 13 → (vp_in (x3 + (1 : Int32)) n) ∧ (vp_in (x3 + (2 : Int32)) n) ∧ (vp_in (x3 + (3 : Int32)) n) ∧ ∃ r323 I324 L325, CTi mr_X8_common [.ref d, .int (xs (x3 + (1 : Int32)).toNatClampNeg), .int (xs (x3 + (2 : Int32)).toNatClampNeg), .int (xs (x3 + (3 : Int32)).toNatClampNeg)] S I L r323 I324 L325 ∧ (vp_in (x3 + (1 : Int32)) n) ∧ (vp_in (x3 + (2 : Int32)) n) ∧ (vp_in (x3 + (3 : Int32)) n) ∧ ∃ r334 I335 L336, CTi mr_X9_common [.ref m, .int (xs (x3 + (1 : Int32)).toNatClampNeg), .int (xs (x3 + (2 : Int32)).toNatClampNeg), .int (xs (x3 + (3 : Int32)).toNatClampNeg)] S I324 L325 r334 I335 L336 ∧ ((r323 = r334 → ∀ y341 : Int32, y341 = x3 + 4 → hd_L_law_18 n xs S RET d m y341 I335 L336) ∧ (¬ r323 = r334 → RET (some (.int (0 : Int32))) (S, I335, L336)))) ∧ (y6 = 14 → (vp_in (x3 + (1 : Int32)) n) ∧ (vp_in (x3 + (2 : Int32)) n) ∧ ∃ r350 I351 L352, CTi mr_X8_slope [.ref d, .int (xs (x3 + (1 : Int32)).toNatClampNeg), .int (xs (x3 + (2 : Int32)).toNatClampNeg)] S I L r350 I351 L352 ∧ (vp_in (x3 + (1 : Int32)) n) ∧ (vp_in (x3 + (2 : Int32)) n) ∧ ∃ r359 I360 L361, CTi mr_X9_slope [.ref m, .int (xs (x3 + (1 : Int32)).toNatClampNeg), .int (xs (x3 + (2 : Int32)).toNatClampNeg)] S I351 L352 r359 I360 L361 ∧ ((r350 = r359 → ∀ y366 : Int32, y366 = x3 + 4 → hd_L_law_18 n xs S RET d m y366 I360 L361) ∧ (¬ r350 = r359 → RET (some (.int (0 : Int32))) (S, I360, L361)))) ∧ (y6 = 15 → (vp_in (x3 + (1 : Int32)) n) ∧ (vp_in (x3 + (2 : Int32)) n) ∧ (vp_in (x3 + (3 : Int32)) n) ∧ ∃ r377 I378 L379, CTi mr_X8_move [.ref d, .int (xs (x3 + (1 : Int32)).toNatClampNeg), .int (xs (x3 + (2 : Int32)).toNatClampNeg), .int (xs (x3 + (3 : Int32)).toNatClampNeg)] S I L r377 I378 L379 ∧ (vp_in (x3 + (1 : Int32)) n) ∧ (vp_in (x3 + (2 : Int32)) n) ∧ (vp_in (x3 + (3 : Int32)) n) ∧ ∃ r388 I389 L390, CTi mr_X9_move [.ref m, .int (xs (x3 + (1 : Int32)).toNatClampNeg), .int (xs (x3 + (2 : Int32)).toNatClampNeg), .int (xs (x3 + (3 : Int32)).toNatClampNeg)] S I378 L379 r388 I389 L390 ∧ ((r377 = r388 → ∀ y395 : Int32, y395 = x3 + 4 → hd_L_law_18 n xs S RET d m y395 I389 L390) ∧ (¬ r377 = r388 → RET (some (.int (0 : Int32))) (S, I389, L390)))) ∧ (y6 = 16 → (vp_in (x3 + (1 : Int32)) n) ∧ (vp_in (x3 + (2 : Int32)) n) ∧ ∃ r404 I405 L406, CTi mr_X8_be [.ref d, .int (xs (x3 + (1 : Int32)).toNatClampNeg), .int (xs (x3 + (2 : Int32)).toNatClampNeg)] S I L r404 I405 L406 ∧ (vp_in (x3 + (1 : Int32)) n) ∧ (vp_in (x3 + (2 : Int32)) n) ∧ ∃ r413 I414 L415, CTi mr_X9_be [.ref m, .int (xs (x3 + (1 : Int32)).toNatClampNeg), .int (xs (x3 + (2 : Int32)).toNatClampNeg)] S I405 L406 r413 I414 L415 ∧ ((r404 = r413 → ∀ y420 : Int32, y420 = x3 + 4 → hd_L_law_18 n xs S RET d m y420 I414 L415) ∧ (¬ r404 = r413 → RET (some (.int (0 : Int32))) (S, I414, L415)))) ∧ (y6 = 17 → (vp_in (x3 + (1 : Int32)) n) ∧ (vp_in (x3 + (2 : Int32)) n) ∧ (vp_in (x3 + (3 : Int32)) n) ∧ ∃ r431 I432 L433, CTi mr_X8_parts [.ref d, .int (xs (x3 + (1 : Int32)).toNatClampNeg), .int (xs (x3 + (2 : Int32)).toNatClampNeg), .int (xs (x3 + (3 : Int32)).toNatClampNeg)] S I L r431 I432 L433 ∧ (vp_in (x3 + (1 : Int32)) n) ∧ (vp_in (x3 + (2 : Int32)) n) ∧ (vp_in (x3 + (3 : Int32)) n) ∧ ∃ r442 I443 L444, CTi mr_X9_parts [.ref m, .int (xs (x3 + (1 : Int32)).toNatClampNeg), .int (xs (x3 + (2 : Int32)).toNatClampNeg), .int (xs (x3 + (3 : Int32)).toNatClampNeg)] S I432 L433 r442 I443 L444 ∧ ((r431 = r442 → ∀ y449 : Int32, y449 = x3 + 4 → hd_L_law_18 n xs S RET d m y449 I443 L444) ∧ (¬ r431 = r442 → RET (some (.int (0 : Int32))) (S, I443, L444)))) ∧ (y6 = 18 → (vp_in (x3 + (1 : Int32)) n) ∧ ∃ r456 I457 L458, CTi mr_X8_degrees [.ref d, .int (xs (x3 + (1 : Int32)).toNatClampNeg)] S I L r456 I457 L458 ∧ (vp_in (x3 + (1 : Int32)) n) ∧ ∃ r463 I464 L465, CTi mr_X9_degrees [.ref m, .int (xs (x3 + (1 : Int32)).toNatClampNeg)] S I457 L458 r463 I464 L465 ∧ ((r456 = r463 → ∀ y470 : Int32, y470 = x3 + 4 → hd_L_law_18 n xs S RET d m y470 I464 L465) ∧ (¬ r456 = r463 → RET (some (.int (0 : Int32))) (S, I464, L465)))) ∧ (y6 = 19 → (vp_in (x3 + (1 : Int32)) n) ∧ (vp_in (x3 + (2 : Int32)) n) ∧ (vp_in (x3 + (3 : Int32)) n) ∧ (((xs (x3 + (3 : Int32)).toNatClampNeg) = 0 → ∃ r483 I484 L485, CTi mr_X8_see [.ref d, .int (xs (x3 + (1 : Int32)).toNatClampNeg), .int (xs (x3 + (2 : Int32)).toNatClampNeg), .int (0 : Int32)] S I L r483 I484 L485 ∧ (vp_in (x3 + (1 : Int32)) n) ∧ (vp_in (x3 + (2 : Int32)) n) ∧ (vp_in (x3 + (3 : Int32)) n) ∧ (((xs (x3 + (3 : Int32)).toNatClampNeg) = 0 → ∃ r496 I497 L498, CTi mr_X9_see [.ref m, .int (xs (x3 + (1 : Int32)).toNatClampNeg), .int (xs (x3 + (2 : Int32)).toNatClampNeg), .int (0 : Int32)] S I484 L485 r496 I497 L498 ∧ ((r483 = r496 → ∀ y503 : Int32, y503 = x3 + 4 → hd_L_law_18 n xs S RET d m y503 I497 L498) ∧ (¬ r483 = r496 → RET (some (.int (0 : Int32))) (S, I497, L498)))) ∧ (¬ (xs (x3 + (3 : Int32)).toNatClampNeg) = 0 → ∃ r508 I509 L510, CTi mr_X9_see [.ref m, .int (xs (x3 + (1 : Int32)).toNatClampNeg), .int (xs (x3 + (2 : Int32)).toNatClampNeg), .int (1 : Int32)] S I484 L485 r508 I509 L510 ∧ ((r483 = r508 → ∀ y515 : Int32, y515 = x3 + 4 → hd_L_law_18 n xs S RET d m y515 I509 L510) ∧ (¬ r483 = r508 → RET (some (.int (0 : Int32))) (S, I509, L510)))))) ∧ (¬ (xs (x3 + (3 : Int32)).toNatClampNeg) = 0 → ∃ r520 I521 L522, CTi mr_X8_see [.ref d, .int (xs (x3 + (1 : Int32)).toNatClampNeg), .int (xs (x3 + (2 : Int32)).toNatClampNeg), .int (1 : Int32)] S I L r520 I521 L522 ∧ (vp_in (x3 + (1 : Int32)) n) ∧ (vp_in (x3 + (2 : Int32)) n) ∧ (vp_in (x3 + (3 : Int32)) n) ∧ (((xs (x3 + (3 : Int32)).toNatClampNeg) = 0 → ∃ r533 I534 L535, CTi mr_X9_see [.ref m, .int (xs (x3 + (1 : Int32)).toNatClampNeg), .int (xs (x3 + (2 : Int32)).toNatClampNeg), .int (0 : Int32)] S I521 L522 r533 I534 L535 ∧ ((r520 = r533 → ∀ y540 : Int32, y540 = x3 + 4 → hd_L_law_18 n xs S RET d m y540 I534 L535) ∧ (¬ r520 = r533 → RET (some (.int (0 : Int32))) (S, I534, L535)))) ∧ (¬ (xs (x3 + (3 : Int32)).toNatClampNeg) = 0 → ∃ r545 I546 L547, CTi mr_X9_see [.ref m, .int (xs (x3 + (1 : Int32)).toNatClampNeg), .int (xs (x3 + (2 : Int32)).toNatClampNeg), .int (1 : Int32)] S I521 L522 r545 I546 L547 ∧ ((r520 = r545 → ∀ y552 : Int32, y552 = x3 + 4 → hd_L_law_18 n xs S RET d m y552 I546 L547) ∧ (¬ r520 = r545 → RET (some (.int (0 : Int32))) (S, I546, L547)))))))) ∧ (y6 = 20 → ∃ r557 I558 L559, CTi mr_X8_forget [.ref d] S I L r557 I558 L559 ∧ ∃ r562 I563 L564, CTi mr_X9_forget [.ref m] S I558 L559 r562 I563 L564 ∧ ((r557 = r562 → ∀ y569 : Int32, y569 = x3 + 4 → hd_L_law_18 n xs S RET d m y569 I563 L564) ∧ (¬ r557 = r562 → RET (some (.int (0 : Int32))) (S, I563, L564)))) ∧ (y6 = 21 → (vp_in (x3 + (1 : Int32)) n) ∧ (vp_in (x3 + (2 : Int32)) n) ∧ (vp_in (x3 + (3 : Int32)) n) ∧ ∃ r580 I581 L582, CTi mr_X8_drawn [.ref d, .int (xs (x3 + (1 : Int32)).toNatClampNeg), .int (xs (x3 + (2 : Int32)).toNatClampNeg), .int (xs (x3 + (3 : Int32)).toNatClampNeg)] S I L r580 I581 L582 ∧ (vp_in (x3 + (1 : Int32)) n) ∧ (vp_in (x3 + (2 : Int32)) n) ∧ (vp_in (x3 + (3 : Int32)) n) ∧ ∃ r591 I592 L593, CTi mr_X9_drawn [.ref m, .int (xs (x3 + (1 : Int32)).toNatClampNeg), .int (xs (x3 + (2 : Int32)).toNatClampNeg), .int (xs (x3 + (3 : Int32)).toNatClampNeg)] S I581 L582 r591 I592 L593 ∧ ((r580 = r591 → ∀ y598 : Int32, y598 = x3 + 4 → hd_L_law_18 n xs S RET d m y598 I592 L593) ∧ (¬ r580 = r591 → RET (some (.int (0 : Int32))) (S, I592, L593)))) ∧ (y6 = 22 → ∃ r603 I604 L605, CTi mr_X8_image [.ref d] S I L r603 I604 L605 ∧ ∃ r608 I609 L610, CTi mr_X9_image [.ref m] S I604 L605 r608 I609 L610 ∧ ((r603 = r608 → ∀ y615 : Int32, y615 = x3 + 4 → hd_L_law_18 n xs S RET d m y615 I609 L610) ∧ (¬ r603 = r608 → RET (some (.int (0 : Int32))) (S, I609, L610)))) ∧ (y6 = 23 → ∃ r620 I621 L622, CTi mr_X8_restore [.ref d] S I L r620 I621 L622 ∧ ∃ r625 I626 L627, CTi mr_X9_restore [.ref m] S I621 L622 r625 I626 L627 ∧ ((r620 = r625 → ∀ y632 : Int32, y632 = x3 + 4 → hd_L_law_18 n xs S RET d m y632 I626 L627) ∧ (¬ r620 = r625 → RET (some (.int (0 : Int32))) (S, I626, L627)))) ∧ (y6 = 24 → (vp_in (x3 + (1 : Int32)) n) ∧ ∃ r639 I640 L641, CTi mr_X8_count [.ref d, .int (xs (x3 + (1 : Int32)).toNatClampNeg)] S I L r639 I640 L641 ∧ (vp_in (x3 + (1 : Int32)) n) ∧ ∃ r646 I647 L648, CTi mr_X9_count [.ref m, .int (xs (x3 + (1 : Int32)).toNatClampNeg)] S I640 L641 r646 I647 L648 ∧ ((r639 = r646 → ∀ y653 : Int32, y653 = x3 + 4 → hd_L_law_18 n xs S RET d m y653 I647 L648) ∧ (¬ r639 = r646 → RET (some (.int (0 : Int32))) (S, I647, L648)))) ∧ (y6 = 25 → ∃ r658 I659 L660, CTl mr_X8_digest [.ref d] S I L r658 I659 L660 ∧ ∃ r663 I664 L665, CTl mr_X9_digest [.ref m] S I659 L660 r663 I664 L665 ∧ ((r658 = r663 → ∀ y670 : Int32, y670 = x3 + 4 → hd_L_law_18 n xs S RET d m y670 I664 L665) ∧ (¬ r658 = r663 → RET (some (.int (0 : Int32))) (S, I664, L665)))) ∧ (y6.toInt < 0 ∨ 25 < y6.toInt → ∀ y675 : Int32, y675 = x3 + 4 → hd_L_law_18 n xs S RET d m y675 I L))))) : hd_L_law_18 n xs S RET d m x3 I L := by
  unfold hd_L_law_18
  refine V.iload_n dL_law_18 rfl rfl ?_
  refine V.aload_n dL_law_19 rfl rfl ?_
  refine V.slen rfl dL_law_20 ?_
  refine V.iconst (v := (4)) dL_law_21 (by decide) ?_
  refine V.isub dL_law_22 ?_
  refine V.icmp_gt (tgt := 934) dL_law_23 (by decide) (fun c1 => ?_) (fun c1 => ?_)
  · have H2 := H0.1 c1
    refine V.iconst (v := (1)) dL_law_934 (by decide) ?_
    exact V.ret (v := some (.int (1 : Int32))) rfl (Or.inl ⟨_, rfl, dL_law_935, _, rfl, (by decide)⟩) ⟨by decide, by decide⟩ H2
  · have H3 := H0.2 c1
    refine V.aload_n dL_law_26 rfl rfl ?_
    refine V.iload_n dL_law_27 rfl rfl ?_
    obtain ⟨o4, H5⟩ := H3
    refine V.sld rfl dL_law_28 o4 ?_
    refine V.bipush (v := (31)) dL_law_29 (by decide) ?_
    refine V.iand dL_law_31 ?_
    refine V.topi (fun y6 e7 => ?_)
    have H8 := H5 y6 e7
    rcases mj_sw_0_25 y6 with c9 | c9 | c9 | c9 | c9 | c9 | c9 | c9 | c9 | c9 | c9 | c9 | c9 | c9 | c9 | c9 | c9 | c9 | c9 | c9 | c9 | c9 | c9 | c9 | c9 | c9 | c9
    · have H11 := H8.1 c9
      refine V.tableIn (off := 120) (tgt := 152) dL_law_32 (by rw [c9]; decide) (by rw [c9]; decide) (by rw [c9]; rfl) (by decide) ?_
      refine V.aload_n dL_law_152 rfl rfl ?_
      refine V.aload_n dL_law_153 rfl rfl ?_
      refine V.iload_n dL_law_154 rfl rfl ?_
      refine V.iconst (v := (1)) dL_law_155 (by decide) ?_
      refine V.iadd dL_law_156 ?_
      obtain ⟨o12, H13⟩ := H11
      refine V.sld rfl dL_law_157 o12 ?_
      obtain ⟨r14, I15, L16, t17, H18⟩ := H13
      refine V.dVi (N := mr_X8_letter) (as := [.int (xs (x3 + (1 : Int32)).toNatClampNeg)]) dL_law_158 ml_L_13 ok_X8_letter okV_X8_letter ⟨Nat.le_of_ble_eq_true rfl, Nat.le_of_ble_eq_true rfl⟩ hd.1 rfl rfl rfl (Nat.le_of_ble_eq_true rfl) ⟨by decide, by decide⟩ t17 ?_
      refine V.aload_n dL_law_161 rfl rfl ?_
      refine V.aload_n dL_law_162 rfl rfl ?_
      refine V.iload_n dL_law_163 rfl rfl ?_
      refine V.iconst (v := (1)) dL_law_164 (by decide) ?_
      refine V.iadd dL_law_165 ?_
      obtain ⟨o19, H20⟩ := H18
      refine V.sld rfl dL_law_166 o19 ?_
      obtain ⟨r21, I22, L23, t24, H25⟩ := H20
      refine V.dVi (N := mr_X9_letter) (as := [.int (xs (x3 + (1 : Int32)).toNatClampNeg)]) dL_law_167 ml_L_17 ok_X9_letter okV_X9_letter ⟨Nat.le_of_ble_eq_true rfl, Nat.le_of_ble_eq_true rfl⟩ hm.1 rfl rfl rfl (Nat.le_of_ble_eq_true rfl) ⟨by decide, by decide⟩ t24 ?_
      refine V.icmp_eq (tgt := 928) dL_law_170 (by decide) (fun c26 => ?_) (fun c26 => ?_)
      · have H27 := H25.1 c26
        obtain ⟨y28, e29⟩ : ∃ y : Int32, y = x3 + 4 := ⟨_, rfl⟩
        have H30 := H27 y28 e29
        refine V.iinc (v := y28) (lo' := [(3, .int y28), (0, .ref 1000000), (1, .ref d), (2, .ref m)]) dL_law_928 rfl (by rw [e29]; rfl) (Nat.le_of_ble_eq_true rfl) rfl ?_
        refine V.goto (tgt := 18) dL_law_931 (by decide) ?_
        exact V.los [1, 2, 3, 0] rfl H30
      · have H31 := H25.2 c26
        refine V.iconst (v := (0)) dL_law_173 (by decide) ?_
        exact V.ret (v := some (.int (0 : Int32))) rfl (Or.inl ⟨_, rfl, dL_law_174, _, rfl, (by decide)⟩) ⟨by decide, by decide⟩ H31
    · have H32 := H8.2.1 c9
      refine V.tableIn (off := 143) (tgt := 175) dL_law_32 (by rw [c9]; decide) (by rw [c9]; decide) (by rw [c9]; rfl) (by decide) ?_
      refine V.aload_n dL_law_175 rfl rfl ?_
      obtain ⟨r33, I34, L35, t36, H37⟩ := H32
      refine V.dVi (N := mr_X8_blank) (as := []) dL_law_176 ml_L_18 ok_X8_blank okV_X8_blank ⟨Nat.le_of_ble_eq_true rfl, Nat.le_of_ble_eq_true rfl⟩ hd.1 rfl rfl rfl (Nat.le_of_ble_eq_true rfl) ⟨by decide, by decide⟩ t36 ?_
      refine V.aload_n dL_law_179 rfl rfl ?_
      obtain ⟨r38, I39, L40, t41, H42⟩ := H37
      refine V.dVi (N := mr_X9_blank) (as := []) dL_law_180 ml_L_22 ok_X9_blank okV_X9_blank ⟨Nat.le_of_ble_eq_true rfl, Nat.le_of_ble_eq_true rfl⟩ hm.1 rfl rfl rfl (Nat.le_of_ble_eq_true rfl) ⟨by decide, by decide⟩ t41 ?_
      refine V.icmp_eq (tgt := 928) dL_law_183 (by decide) (fun c43 => ?_) (fun c43 => ?_)
      · have H44 := H42.1 c43
        obtain ⟨y45, e46⟩ : ∃ y : Int32, y = x3 + 4 := ⟨_, rfl⟩
        have H47 := H44 y45 e46
        refine V.iinc (v := y45) (lo' := [(3, .int y45), (0, .ref 1000000), (1, .ref d), (2, .ref m)]) dL_law_928 rfl (by rw [e46]; rfl) (Nat.le_of_ble_eq_true rfl) rfl ?_
        refine V.goto (tgt := 18) dL_law_931 (by decide) ?_
        exact V.los [1, 2, 3, 0] rfl H47
      · have H48 := H42.2 c43
        refine V.iconst (v := (0)) dL_law_186 (by decide) ?_
        exact V.ret (v := some (.int (0 : Int32))) rfl (Or.inl ⟨_, rfl, dL_law_187, _, rfl, (by decide)⟩) ⟨by decide, by decide⟩ H48
    · have H49 := H8.2.2.1 c9
      refine V.tableIn (off := 156) (tgt := 188) dL_law_32 (by rw [c9]; decide) (by rw [c9]; decide) (by rw [c9]; rfl) (by decide) ?_
      refine V.aload_n dL_law_188 rfl rfl ?_
      obtain ⟨r50, I51, L52, t53, H54⟩ := H49
      refine V.dVi (N := mr_X8_fault) (as := []) dL_law_189 ml_L_23 ok_X8_fault okV_X8_fault ⟨Nat.le_of_ble_eq_true rfl, Nat.le_of_ble_eq_true rfl⟩ hd.1 rfl rfl rfl (Nat.le_of_ble_eq_true rfl) ⟨by decide, by decide⟩ t53 ?_
      refine V.aload_n dL_law_192 rfl rfl ?_
      obtain ⟨r55, I56, L57, t58, H59⟩ := H54
      refine V.dVi (N := mr_X9_fault) (as := []) dL_law_193 ml_L_26 ok_X9_fault okV_X9_fault ⟨Nat.le_of_ble_eq_true rfl, Nat.le_of_ble_eq_true rfl⟩ hm.1 rfl rfl rfl (Nat.le_of_ble_eq_true rfl) ⟨by decide, by decide⟩ t58 ?_
      refine V.icmp_eq (tgt := 928) dL_law_196 (by decide) (fun c60 => ?_) (fun c60 => ?_)
      · have H61 := H59.1 c60
        obtain ⟨y62, e63⟩ : ∃ y : Int32, y = x3 + 4 := ⟨_, rfl⟩
        have H64 := H61 y62 e63
        refine V.iinc (v := y62) (lo' := [(3, .int y62), (0, .ref 1000000), (1, .ref d), (2, .ref m)]) dL_law_928 rfl (by rw [e63]; rfl) (Nat.le_of_ble_eq_true rfl) rfl ?_
        refine V.goto (tgt := 18) dL_law_931 (by decide) ?_
        exact V.los [1, 2, 3, 0] rfl H64
      · have H65 := H59.2 c60
        refine V.iconst (v := (0)) dL_law_199 (by decide) ?_
        exact V.ret (v := some (.int (0 : Int32))) rfl (Or.inl ⟨_, rfl, dL_law_200, _, rfl, (by decide)⟩) ⟨by decide, by decide⟩ H65
    · have H66 := H8.2.2.2.1 c9
      refine V.tableIn (off := 169) (tgt := 201) dL_law_32 (by rw [c9]; decide) (by rw [c9]; decide) (by rw [c9]; rfl) (by decide) ?_
      refine V.aload_n dL_law_201 rfl rfl ?_
      obtain ⟨r67, I68, L69, t70, H71⟩ := H66
      refine V.dVi (N := mr_X8_desk) (as := []) dL_law_202 ml_L_27 ok_X8_desk okV_X8_desk ⟨Nat.le_of_ble_eq_true rfl, Nat.le_of_ble_eq_true rfl⟩ hd.1 rfl rfl rfl (Nat.le_of_ble_eq_true rfl) ⟨by decide, by decide⟩ t70 ?_
      refine V.aload_n dL_law_205 rfl rfl ?_
      obtain ⟨r72, I73, L74, t75, H76⟩ := H71
      refine V.dVi (N := mr_X9_desk) (as := []) dL_law_206 ml_L_30 ok_X9_desk okV_X9_desk ⟨Nat.le_of_ble_eq_true rfl, Nat.le_of_ble_eq_true rfl⟩ hm.1 rfl rfl rfl (Nat.le_of_ble_eq_true rfl) ⟨by decide, by decide⟩ t75 ?_
      refine V.icmp_eq (tgt := 928) dL_law_209 (by decide) (fun c77 => ?_) (fun c77 => ?_)
      · have H78 := H76.1 c77
        obtain ⟨y79, e80⟩ : ∃ y : Int32, y = x3 + 4 := ⟨_, rfl⟩
        have H81 := H78 y79 e80
        refine V.iinc (v := y79) (lo' := [(3, .int y79), (0, .ref 1000000), (1, .ref d), (2, .ref m)]) dL_law_928 rfl (by rw [e80]; rfl) (Nat.le_of_ble_eq_true rfl) rfl ?_
        refine V.goto (tgt := 18) dL_law_931 (by decide) ?_
        exact V.los [1, 2, 3, 0] rfl H81
      · have H82 := H76.2 c77
        refine V.iconst (v := (0)) dL_law_212 (by decide) ?_
        exact V.ret (v := some (.int (0 : Int32))) rfl (Or.inl ⟨_, rfl, dL_law_213, _, rfl, (by decide)⟩) ⟨by decide, by decide⟩ H82
    · have H83 := H8.2.2.2.2.1 c9
      refine V.tableIn (off := 182) (tgt := 214) dL_law_32 (by rw [c9]; decide) (by rw [c9]; decide) (by rw [c9]; rfl) (by decide) ?_
      refine V.aload_n dL_law_214 rfl rfl ?_
      refine V.aload_n dL_law_215 rfl rfl ?_
      refine V.iload_n dL_law_216 rfl rfl ?_
      refine V.iconst (v := (1)) dL_law_217 (by decide) ?_
      refine V.iadd dL_law_218 ?_
      obtain ⟨o84, H85⟩ := H83
      refine V.sld rfl dL_law_219 o84 ?_
      obtain ⟨r86, I87, L88, t89, H90⟩ := H85
      refine V.dVi (N := mr_X8_put) (as := [.int (xs (x3 + (1 : Int32)).toNatClampNeg)]) dL_law_220 ml_L_31 ok_X8_put okV_X8_put ⟨Nat.le_of_ble_eq_true rfl, Nat.le_of_ble_eq_true rfl⟩ hd.1 rfl rfl rfl (Nat.le_of_ble_eq_true rfl) ⟨by decide, by decide⟩ t89 ?_
      refine V.aload_n dL_law_223 rfl rfl ?_
      refine V.aload_n dL_law_224 rfl rfl ?_
      refine V.iload_n dL_law_225 rfl rfl ?_
      refine V.iconst (v := (1)) dL_law_226 (by decide) ?_
      refine V.iadd dL_law_227 ?_
      obtain ⟨o91, H92⟩ := H90
      refine V.sld rfl dL_law_228 o91 ?_
      obtain ⟨r93, I94, L95, t96, H97⟩ := H92
      refine V.dVi (N := mr_X9_put) (as := [.int (xs (x3 + (1 : Int32)).toNatClampNeg)]) dL_law_229 ml_L_34 ok_X9_put okV_X9_put ⟨Nat.le_of_ble_eq_true rfl, Nat.le_of_ble_eq_true rfl⟩ hm.1 rfl rfl rfl (Nat.le_of_ble_eq_true rfl) ⟨by decide, by decide⟩ t96 ?_
      refine V.icmp_eq (tgt := 928) dL_law_232 (by decide) (fun c98 => ?_) (fun c98 => ?_)
      · have H99 := H97.1 c98
        obtain ⟨y100, e101⟩ : ∃ y : Int32, y = x3 + 4 := ⟨_, rfl⟩
        have H102 := H99 y100 e101
        refine V.iinc (v := y100) (lo' := [(3, .int y100), (0, .ref 1000000), (1, .ref d), (2, .ref m)]) dL_law_928 rfl (by rw [e101]; rfl) (Nat.le_of_ble_eq_true rfl) rfl ?_
        refine V.goto (tgt := 18) dL_law_931 (by decide) ?_
        exact V.los [1, 2, 3, 0] rfl H102
      · have H103 := H97.2 c98
        refine V.iconst (v := (0)) dL_law_235 (by decide) ?_
        exact V.ret (v := some (.int (0 : Int32))) rfl (Or.inl ⟨_, rfl, dL_law_236, _, rfl, (by decide)⟩) ⟨by decide, by decide⟩ H103
    · have H104 := H8.2.2.2.2.2.1 c9
      refine V.tableIn (off := 205) (tgt := 237) dL_law_32 (by rw [c9]; decide) (by rw [c9]; decide) (by rw [c9]; rfl) (by decide) ?_
      refine V.aload_n dL_law_237 rfl rfl ?_
      refine V.aload_n dL_law_238 rfl rfl ?_
      refine V.iload_n dL_law_239 rfl rfl ?_
      refine V.iconst (v := (1)) dL_law_240 (by decide) ?_
      refine V.iadd dL_law_241 ?_
      obtain ⟨o105, H106⟩ := H104
      refine V.sld rfl dL_law_242 o105 ?_
      refine V.aload_n dL_law_243 rfl rfl ?_
      refine V.iload_n dL_law_244 rfl rfl ?_
      refine V.iconst (v := (2)) dL_law_245 (by decide) ?_
      refine V.iadd dL_law_246 ?_
      obtain ⟨o107, H108⟩ := H106
      refine V.sld rfl dL_law_247 o107 ?_
      obtain ⟨r109, I110, L111, t112, H113⟩ := H108
      refine V.dVi (N := mr_X8_slot) (as := [.int (xs (x3 + (1 : Int32)).toNatClampNeg), .int (xs (x3 + (2 : Int32)).toNatClampNeg)]) dL_law_248 ml_L_35 ok_X8_slot okV_X8_slot ⟨Nat.le_of_ble_eq_true rfl, Nat.le_of_ble_eq_true rfl⟩ hd.1 rfl rfl rfl (Nat.le_of_ble_eq_true rfl) ⟨by decide, by decide⟩ t112 ?_
      refine V.aload_n dL_law_251 rfl rfl ?_
      refine V.aload_n dL_law_252 rfl rfl ?_
      refine V.iload_n dL_law_253 rfl rfl ?_
      refine V.iconst (v := (1)) dL_law_254 (by decide) ?_
      refine V.iadd dL_law_255 ?_
      obtain ⟨o114, H115⟩ := H113
      refine V.sld rfl dL_law_256 o114 ?_
      refine V.aload_n dL_law_257 rfl rfl ?_
      refine V.iload_n dL_law_258 rfl rfl ?_
      refine V.iconst (v := (2)) dL_law_259 (by decide) ?_
      refine V.iadd dL_law_260 ?_
      obtain ⟨o116, H117⟩ := H115
      refine V.sld rfl dL_law_261 o116 ?_
      obtain ⟨r118, I119, L120, t121, H122⟩ := H117
      refine V.dVi (N := mr_X9_slot) (as := [.int (xs (x3 + (1 : Int32)).toNatClampNeg), .int (xs (x3 + (2 : Int32)).toNatClampNeg)]) dL_law_262 ml_L_39 ok_X9_slot okV_X9_slot ⟨Nat.le_of_ble_eq_true rfl, Nat.le_of_ble_eq_true rfl⟩ hm.1 rfl rfl rfl (Nat.le_of_ble_eq_true rfl) ⟨by decide, by decide⟩ t121 ?_
      refine V.icmp_eq (tgt := 928) dL_law_265 (by decide) (fun c123 => ?_) (fun c123 => ?_)
      · have H124 := H122.1 c123
        obtain ⟨y125, e126⟩ : ∃ y : Int32, y = x3 + 4 := ⟨_, rfl⟩
        have H127 := H124 y125 e126
        refine V.iinc (v := y125) (lo' := [(3, .int y125), (0, .ref 1000000), (1, .ref d), (2, .ref m)]) dL_law_928 rfl (by rw [e126]; rfl) (Nat.le_of_ble_eq_true rfl) rfl ?_
        refine V.goto (tgt := 18) dL_law_931 (by decide) ?_
        exact V.los [1, 2, 3, 0] rfl H127
      · have H128 := H122.2 c123
        refine V.iconst (v := (0)) dL_law_268 (by decide) ?_
        exact V.ret (v := some (.int (0 : Int32))) rfl (Or.inl ⟨_, rfl, dL_law_269, _, rfl, (by decide)⟩) ⟨by decide, by decide⟩ H128
    · have H129 := H8.2.2.2.2.2.2.1 c9
      refine V.tableIn (off := 238) (tgt := 270) dL_law_32 (by rw [c9]; decide) (by rw [c9]; decide) (by rw [c9]; rfl) (by decide) ?_
      refine V.aload_n dL_law_270 rfl rfl ?_
      refine V.aload_n dL_law_271 rfl rfl ?_
      refine V.iload_n dL_law_272 rfl rfl ?_
      refine V.iconst (v := (1)) dL_law_273 (by decide) ?_
      refine V.iadd dL_law_274 ?_
      obtain ⟨o130, H131⟩ := H129
      refine V.sld rfl dL_law_275 o130 ?_
      refine V.aload_n dL_law_276 rfl rfl ?_
      refine V.iload_n dL_law_277 rfl rfl ?_
      refine V.iconst (v := (2)) dL_law_278 (by decide) ?_
      refine V.iadd dL_law_279 ?_
      obtain ⟨o132, H133⟩ := H131
      refine V.sld rfl dL_law_280 o132 ?_
      obtain ⟨r134, I135, L136, t137, H138⟩ := H133
      refine V.dVi (N := mr_X8_as) (as := [.int (xs (x3 + (1 : Int32)).toNatClampNeg), .int (xs (x3 + (2 : Int32)).toNatClampNeg)]) dL_law_281 ml_L_40 ok_X8_as okV_X8_as ⟨Nat.le_of_ble_eq_true rfl, Nat.le_of_ble_eq_true rfl⟩ hd.1 rfl rfl rfl (Nat.le_of_ble_eq_true rfl) ⟨by decide, by decide⟩ t137 ?_
      refine V.aload_n dL_law_284 rfl rfl ?_
      refine V.aload_n dL_law_285 rfl rfl ?_
      refine V.iload_n dL_law_286 rfl rfl ?_
      refine V.iconst (v := (1)) dL_law_287 (by decide) ?_
      refine V.iadd dL_law_288 ?_
      obtain ⟨o139, H140⟩ := H138
      refine V.sld rfl dL_law_289 o139 ?_
      refine V.aload_n dL_law_290 rfl rfl ?_
      refine V.iload_n dL_law_291 rfl rfl ?_
      refine V.iconst (v := (2)) dL_law_292 (by decide) ?_
      refine V.iadd dL_law_293 ?_
      obtain ⟨o141, H142⟩ := H140
      refine V.sld rfl dL_law_294 o141 ?_
      obtain ⟨r143, I144, L145, t146, H147⟩ := H142
      refine V.dVi (N := mr_X9_as) (as := [.int (xs (x3 + (1 : Int32)).toNatClampNeg), .int (xs (x3 + (2 : Int32)).toNatClampNeg)]) dL_law_295 ml_L_43 ok_X9_as okV_X9_as ⟨Nat.le_of_ble_eq_true rfl, Nat.le_of_ble_eq_true rfl⟩ hm.1 rfl rfl rfl (Nat.le_of_ble_eq_true rfl) ⟨by decide, by decide⟩ t146 ?_
      refine V.icmp_eq (tgt := 928) dL_law_298 (by decide) (fun c148 => ?_) (fun c148 => ?_)
      · have H149 := H147.1 c148
        obtain ⟨y150, e151⟩ : ∃ y : Int32, y = x3 + 4 := ⟨_, rfl⟩
        have H152 := H149 y150 e151
        refine V.iinc (v := y150) (lo' := [(3, .int y150), (0, .ref 1000000), (1, .ref d), (2, .ref m)]) dL_law_928 rfl (by rw [e151]; rfl) (Nat.le_of_ble_eq_true rfl) rfl ?_
        refine V.goto (tgt := 18) dL_law_931 (by decide) ?_
        exact V.los [1, 2, 3, 0] rfl H152
      · have H153 := H147.2 c148
        refine V.iconst (v := (0)) dL_law_301 (by decide) ?_
        exact V.ret (v := some (.int (0 : Int32))) rfl (Or.inl ⟨_, rfl, dL_law_302, _, rfl, (by decide)⟩) ⟨by decide, by decide⟩ H153
    · have H154 := H8.2.2.2.2.2.2.2.1 c9
      refine V.tableIn (off := 271) (tgt := 303) dL_law_32 (by rw [c9]; decide) (by rw [c9]; decide) (by rw [c9]; rfl) (by decide) ?_
      refine V.aload_n dL_law_303 rfl rfl ?_
      refine V.aload_n dL_law_304 rfl rfl ?_
      refine V.iload_n dL_law_305 rfl rfl ?_
      refine V.iconst (v := (1)) dL_law_306 (by decide) ?_
      refine V.iadd dL_law_307 ?_
      obtain ⟨o155, H156⟩ := H154
      refine V.sld rfl dL_law_308 o155 ?_
      refine V.aload_n dL_law_309 rfl rfl ?_
      refine V.iload_n dL_law_310 rfl rfl ?_
      refine V.iconst (v := (2)) dL_law_311 (by decide) ?_
      refine V.iadd dL_law_312 ?_
      obtain ⟨o157, H158⟩ := H156
      refine V.sld rfl dL_law_313 o157 ?_
      obtain ⟨r159, I160, L161, t162, H163⟩ := H158
      refine V.dVi (N := mr_X8_number) (as := [.int (xs (x3 + (1 : Int32)).toNatClampNeg), .int (xs (x3 + (2 : Int32)).toNatClampNeg)]) dL_law_314 ml_L_44 ok_X8_number okV_X8_number ⟨Nat.le_of_ble_eq_true rfl, Nat.le_of_ble_eq_true rfl⟩ hd.1 rfl rfl rfl (Nat.le_of_ble_eq_true rfl) ⟨by decide, by decide⟩ t162 ?_
      refine V.aload_n dL_law_317 rfl rfl ?_
      refine V.aload_n dL_law_318 rfl rfl ?_
      refine V.iload_n dL_law_319 rfl rfl ?_
      refine V.iconst (v := (1)) dL_law_320 (by decide) ?_
      refine V.iadd dL_law_321 ?_
      obtain ⟨o164, H165⟩ := H163
      refine V.sld rfl dL_law_322 o164 ?_
      refine V.aload_n dL_law_323 rfl rfl ?_
      refine V.iload_n dL_law_324 rfl rfl ?_
      refine V.iconst (v := (2)) dL_law_325 (by decide) ?_
      refine V.iadd dL_law_326 ?_
      obtain ⟨o166, H167⟩ := H165
      refine V.sld rfl dL_law_327 o166 ?_
      obtain ⟨r168, I169, L170, t171, H172⟩ := H167
      refine V.dVi (N := mr_X9_number) (as := [.int (xs (x3 + (1 : Int32)).toNatClampNeg), .int (xs (x3 + (2 : Int32)).toNatClampNeg)]) dL_law_328 ml_L_47 ok_X9_number okV_X9_number ⟨Nat.le_of_ble_eq_true rfl, Nat.le_of_ble_eq_true rfl⟩ hm.1 rfl rfl rfl (Nat.le_of_ble_eq_true rfl) ⟨by decide, by decide⟩ t171 ?_
      refine V.icmp_eq (tgt := 928) dL_law_331 (by decide) (fun c173 => ?_) (fun c173 => ?_)
      · have H174 := H172.1 c173
        obtain ⟨y175, e176⟩ : ∃ y : Int32, y = x3 + 4 := ⟨_, rfl⟩
        have H177 := H174 y175 e176
        refine V.iinc (v := y175) (lo' := [(3, .int y175), (0, .ref 1000000), (1, .ref d), (2, .ref m)]) dL_law_928 rfl (by rw [e176]; rfl) (Nat.le_of_ble_eq_true rfl) rfl ?_
        refine V.goto (tgt := 18) dL_law_931 (by decide) ?_
        exact V.los [1, 2, 3, 0] rfl H177
      · have H178 := H172.2 c173
        refine V.iconst (v := (0)) dL_law_334 (by decide) ?_
        exact V.ret (v := some (.int (0 : Int32))) rfl (Or.inl ⟨_, rfl, dL_law_335, _, rfl, (by decide)⟩) ⟨by decide, by decide⟩ H178
    · have H179 := H8.2.2.2.2.2.2.2.2.1 c9
      refine V.tableIn (off := 304) (tgt := 336) dL_law_32 (by rw [c9]; decide) (by rw [c9]; decide) (by rw [c9]; rfl) (by decide) ?_
      refine V.aload_n dL_law_336 rfl rfl ?_
      refine V.aload_n dL_law_337 rfl rfl ?_
      refine V.iload_n dL_law_338 rfl rfl ?_
      refine V.iconst (v := (1)) dL_law_339 (by decide) ?_
      refine V.iadd dL_law_340 ?_
      obtain ⟨o180, H181⟩ := H179
      refine V.sld rfl dL_law_341 o180 ?_
      refine V.aload_n dL_law_342 rfl rfl ?_
      refine V.iload_n dL_law_343 rfl rfl ?_
      refine V.iconst (v := (2)) dL_law_344 (by decide) ?_
      refine V.iadd dL_law_345 ?_
      obtain ⟨o182, H183⟩ := H181
      refine V.sld rfl dL_law_346 o182 ?_
      obtain ⟨r184, I185, L186, t187, H188⟩ := H183
      refine V.dVi (N := mr_X8_text) (as := [.int (xs (x3 + (1 : Int32)).toNatClampNeg), .int (xs (x3 + (2 : Int32)).toNatClampNeg)]) dL_law_347 ml_L_48 ok_X8_text okV_X8_text ⟨Nat.le_of_ble_eq_true rfl, Nat.le_of_ble_eq_true rfl⟩ hd.1 rfl rfl rfl (Nat.le_of_ble_eq_true rfl) ⟨by decide, by decide⟩ t187 ?_
      refine V.aload_n dL_law_350 rfl rfl ?_
      refine V.aload_n dL_law_351 rfl rfl ?_
      refine V.iload_n dL_law_352 rfl rfl ?_
      refine V.iconst (v := (1)) dL_law_353 (by decide) ?_
      refine V.iadd dL_law_354 ?_
      obtain ⟨o189, H190⟩ := H188
      refine V.sld rfl dL_law_355 o189 ?_
      refine V.aload_n dL_law_356 rfl rfl ?_
      refine V.iload_n dL_law_357 rfl rfl ?_
      refine V.iconst (v := (2)) dL_law_358 (by decide) ?_
      refine V.iadd dL_law_359 ?_
      obtain ⟨o191, H192⟩ := H190
      refine V.sld rfl dL_law_360 o191 ?_
      obtain ⟨r193, I194, L195, t196, H197⟩ := H192
      refine V.dVi (N := mr_X9_text) (as := [.int (xs (x3 + (1 : Int32)).toNatClampNeg), .int (xs (x3 + (2 : Int32)).toNatClampNeg)]) dL_law_361 ml_L_51 ok_X9_text okV_X9_text ⟨Nat.le_of_ble_eq_true rfl, Nat.le_of_ble_eq_true rfl⟩ hm.1 rfl rfl rfl (Nat.le_of_ble_eq_true rfl) ⟨by decide, by decide⟩ t196 ?_
      refine V.icmp_eq (tgt := 928) dL_law_364 (by decide) (fun c198 => ?_) (fun c198 => ?_)
      · have H199 := H197.1 c198
        obtain ⟨y200, e201⟩ : ∃ y : Int32, y = x3 + 4 := ⟨_, rfl⟩
        have H202 := H199 y200 e201
        refine V.iinc (v := y200) (lo' := [(3, .int y200), (0, .ref 1000000), (1, .ref d), (2, .ref m)]) dL_law_928 rfl (by rw [e201]; rfl) (Nat.le_of_ble_eq_true rfl) rfl ?_
        refine V.goto (tgt := 18) dL_law_931 (by decide) ?_
        exact V.los [1, 2, 3, 0] rfl H202
      · have H203 := H197.2 c198
        refine V.iconst (v := (0)) dL_law_367 (by decide) ?_
        exact V.ret (v := some (.int (0 : Int32))) rfl (Or.inl ⟨_, rfl, dL_law_368, _, rfl, (by decide)⟩) ⟨by decide, by decide⟩ H203
    · have H204 := H8.2.2.2.2.2.2.2.2.2.1 c9
      refine V.tableIn (off := 337) (tgt := 369) dL_law_32 (by rw [c9]; decide) (by rw [c9]; decide) (by rw [c9]; rfl) (by decide) ?_
      refine V.aload_n dL_law_369 rfl rfl ?_
      refine V.aload_n dL_law_370 rfl rfl ?_
      refine V.iload_n dL_law_371 rfl rfl ?_
      refine V.iconst (v := (1)) dL_law_372 (by decide) ?_
      refine V.iadd dL_law_373 ?_
      obtain ⟨o205, H206⟩ := H204
      refine V.sld rfl dL_law_374 o205 ?_
      refine V.aload_n dL_law_375 rfl rfl ?_
      refine V.iload_n dL_law_376 rfl rfl ?_
      refine V.iconst (v := (2)) dL_law_377 (by decide) ?_
      refine V.iadd dL_law_378 ?_
      obtain ⟨o207, H208⟩ := H206
      refine V.sld rfl dL_law_379 o207 ?_
      refine V.aload_n dL_law_380 rfl rfl ?_
      refine V.iload_n dL_law_381 rfl rfl ?_
      refine V.iconst (v := (3)) dL_law_382 (by decide) ?_
      refine V.iadd dL_law_383 ?_
      obtain ⟨o209, H210⟩ := H208
      refine V.sld rfl dL_law_384 o209 ?_
      obtain ⟨r211, I212, L213, t214, H215⟩ := H210
      refine V.dVi (N := mr_X8_factor) (as := [.int (xs (x3 + (1 : Int32)).toNatClampNeg), .int (xs (x3 + (2 : Int32)).toNatClampNeg), .int (xs (x3 + (3 : Int32)).toNatClampNeg)]) dL_law_385 ml_L_52 ok_X8_factor okV_X8_factor ⟨Nat.le_of_ble_eq_true rfl, Nat.le_of_ble_eq_true rfl⟩ hd.1 rfl rfl rfl (Nat.le_of_ble_eq_true rfl) ⟨by decide, by decide⟩ t214 ?_
      refine V.aload_n dL_law_388 rfl rfl ?_
      refine V.aload_n dL_law_389 rfl rfl ?_
      refine V.iload_n dL_law_390 rfl rfl ?_
      refine V.iconst (v := (1)) dL_law_391 (by decide) ?_
      refine V.iadd dL_law_392 ?_
      obtain ⟨o216, H217⟩ := H215
      refine V.sld rfl dL_law_393 o216 ?_
      refine V.aload_n dL_law_394 rfl rfl ?_
      refine V.iload_n dL_law_395 rfl rfl ?_
      refine V.iconst (v := (2)) dL_law_396 (by decide) ?_
      refine V.iadd dL_law_397 ?_
      obtain ⟨o218, H219⟩ := H217
      refine V.sld rfl dL_law_398 o218 ?_
      refine V.aload_n dL_law_399 rfl rfl ?_
      refine V.iload_n dL_law_400 rfl rfl ?_
      refine V.iconst (v := (3)) dL_law_401 (by decide) ?_
      refine V.iadd dL_law_402 ?_
      obtain ⟨o220, H221⟩ := H219
      refine V.sld rfl dL_law_403 o220 ?_
      obtain ⟨r222, I223, L224, t225, H226⟩ := H221
      refine V.dVi (N := mr_X9_factor) (as := [.int (xs (x3 + (1 : Int32)).toNatClampNeg), .int (xs (x3 + (2 : Int32)).toNatClampNeg), .int (xs (x3 + (3 : Int32)).toNatClampNeg)]) dL_law_404 ml_L_56 ok_X9_factor okV_X9_factor ⟨Nat.le_of_ble_eq_true rfl, Nat.le_of_ble_eq_true rfl⟩ hm.1 rfl rfl rfl (Nat.le_of_ble_eq_true rfl) ⟨by decide, by decide⟩ t225 ?_
      refine V.icmp_eq (tgt := 928) dL_law_407 (by decide) (fun c227 => ?_) (fun c227 => ?_)
      · have H228 := H226.1 c227
        obtain ⟨y229, e230⟩ : ∃ y : Int32, y = x3 + 4 := ⟨_, rfl⟩
        have H231 := H228 y229 e230
        refine V.iinc (v := y229) (lo' := [(3, .int y229), (0, .ref 1000000), (1, .ref d), (2, .ref m)]) dL_law_928 rfl (by rw [e230]; rfl) (Nat.le_of_ble_eq_true rfl) rfl ?_
        refine V.goto (tgt := 18) dL_law_931 (by decide) ?_
        exact V.los [1, 2, 3, 0] rfl H231
      · have H232 := H226.2 c227
        refine V.iconst (v := (0)) dL_law_410 (by decide) ?_
        exact V.ret (v := some (.int (0 : Int32))) rfl (Or.inl ⟨_, rfl, dL_law_411, _, rfl, (by decide)⟩) ⟨by decide, by decide⟩ H232
    · have H233 := H8.2.2.2.2.2.2.2.2.2.2.1 c9
      refine V.tableIn (off := 380) (tgt := 412) dL_law_32 (by rw [c9]; decide) (by rw [c9]; decide) (by rw [c9]; rfl) (by decide) ?_
      refine V.aload_n dL_law_412 rfl rfl ?_
      refine V.aload_n dL_law_413 rfl rfl ?_
      refine V.iload_n dL_law_414 rfl rfl ?_
      refine V.iconst (v := (1)) dL_law_415 (by decide) ?_
      refine V.iadd dL_law_416 ?_
      obtain ⟨o234, H235⟩ := H233
      refine V.sld rfl dL_law_417 o234 ?_
      refine V.aload_n dL_law_418 rfl rfl ?_
      refine V.iload_n dL_law_419 rfl rfl ?_
      refine V.iconst (v := (2)) dL_law_420 (by decide) ?_
      refine V.iadd dL_law_421 ?_
      obtain ⟨o236, H237⟩ := H235
      refine V.sld rfl dL_law_422 o236 ?_
      obtain ⟨r238, I239, L240, t241, H242⟩ := H237
      refine V.dVl (N := mr_X8_value) (as := [.int (xs (x3 + (1 : Int32)).toNatClampNeg), .int (xs (x3 + (2 : Int32)).toNatClampNeg)]) dL_law_423 ml_L_57 ok_X8_value okV_X8_value ⟨Nat.le_of_ble_eq_true rfl, Nat.le_of_ble_eq_true rfl⟩ hd.1 rfl rfl rfl (Nat.le_of_ble_eq_true rfl) ⟨by decide, by decide⟩ t241 ?_
      refine V.aload_n dL_law_426 rfl rfl ?_
      refine V.aload_n dL_law_427 rfl rfl ?_
      refine V.iload_n dL_law_428 rfl rfl ?_
      refine V.iconst (v := (1)) dL_law_429 (by decide) ?_
      refine V.iadd dL_law_430 ?_
      obtain ⟨o243, H244⟩ := H242
      refine V.sld rfl dL_law_431 o243 ?_
      refine V.aload_n dL_law_432 rfl rfl ?_
      refine V.iload_n dL_law_433 rfl rfl ?_
      refine V.iconst (v := (2)) dL_law_434 (by decide) ?_
      refine V.iadd dL_law_435 ?_
      obtain ⟨o245, H246⟩ := H244
      refine V.sld rfl dL_law_436 o245 ?_
      obtain ⟨r247, I248, L249, t250, H251⟩ := H246
      refine V.dVl (N := mr_X9_value) (as := [.int (xs (x3 + (1 : Int32)).toNatClampNeg), .int (xs (x3 + (2 : Int32)).toNatClampNeg)]) dL_law_437 ml_L_61 ok_X9_value okV_X9_value ⟨Nat.le_of_ble_eq_true rfl, Nat.le_of_ble_eq_true rfl⟩ hm.1 rfl rfl rfl (Nat.le_of_ble_eq_true rfl) ⟨by decide, by decide⟩ t250 ?_
      refine V.lc_eq (tgt := 928) dL_law_440 dL_law_441 (by decide) (fun c252 => ?_) (fun c252 => ?_)
      · have H253 := H251.1 c252
        obtain ⟨y254, e255⟩ : ∃ y : Int32, y = x3 + 4 := ⟨_, rfl⟩
        have H256 := H253 y254 e255
        refine V.iinc (v := y254) (lo' := [(3, .int y254), (0, .ref 1000000), (1, .ref d), (2, .ref m)]) dL_law_928 rfl (by rw [e255]; rfl) (Nat.le_of_ble_eq_true rfl) rfl ?_
        refine V.goto (tgt := 18) dL_law_931 (by decide) ?_
        exact V.los [1, 2, 3, 0] rfl H256
      · have H257 := H251.2 c252
        refine V.iconst (v := (0)) dL_law_444 (by decide) ?_
        exact V.ret (v := some (.int (0 : Int32))) rfl (Or.inl ⟨_, rfl, dL_law_445, _, rfl, (by decide)⟩) ⟨by decide, by decide⟩ H257
    · have H258 := H8.2.2.2.2.2.2.2.2.2.2.2.1 c9
      refine V.tableIn (off := 414) (tgt := 446) dL_law_32 (by rw [c9]; decide) (by rw [c9]; decide) (by rw [c9]; rfl) (by decide) ?_
      refine V.aload_n dL_law_446 rfl rfl ?_
      refine V.aload_n dL_law_447 rfl rfl ?_
      refine V.iload_n dL_law_448 rfl rfl ?_
      refine V.iconst (v := (1)) dL_law_449 (by decide) ?_
      refine V.iadd dL_law_450 ?_
      obtain ⟨o259, H260⟩ := H258
      refine V.sld rfl dL_law_451 o259 ?_
      refine V.aload_n dL_law_452 rfl rfl ?_
      refine V.iload_n dL_law_453 rfl rfl ?_
      refine V.iconst (v := (2)) dL_law_454 (by decide) ?_
      refine V.iadd dL_law_455 ?_
      obtain ⟨o261, H262⟩ := H260
      refine V.sld rfl dL_law_456 o261 ?_
      refine V.aload_n dL_law_457 rfl rfl ?_
      refine V.iload_n dL_law_458 rfl rfl ?_
      refine V.iconst (v := (3)) dL_law_459 (by decide) ?_
      refine V.iadd dL_law_460 ?_
      obtain ⟨o263, H264⟩ := H262
      refine V.sld rfl dL_law_461 o263 ?_
      obtain ⟨r265, I266, L267, t268, H269⟩ := H264
      refine V.dVi (N := mr_X8_add) (as := [.int (xs (x3 + (1 : Int32)).toNatClampNeg), .int (xs (x3 + (2 : Int32)).toNatClampNeg), .int (xs (x3 + (3 : Int32)).toNatClampNeg)]) dL_law_462 ml_L_62 ok_X8_add okV_X8_add ⟨Nat.le_of_ble_eq_true rfl, Nat.le_of_ble_eq_true rfl⟩ hd.1 rfl rfl rfl (Nat.le_of_ble_eq_true rfl) ⟨by decide, by decide⟩ t268 ?_
      refine V.aload_n dL_law_465 rfl rfl ?_
      refine V.aload_n dL_law_466 rfl rfl ?_
      refine V.iload_n dL_law_467 rfl rfl ?_
      refine V.iconst (v := (1)) dL_law_468 (by decide) ?_
      refine V.iadd dL_law_469 ?_
      obtain ⟨o270, H271⟩ := H269
      refine V.sld rfl dL_law_470 o270 ?_
      refine V.aload_n dL_law_471 rfl rfl ?_
      refine V.iload_n dL_law_472 rfl rfl ?_
      refine V.iconst (v := (2)) dL_law_473 (by decide) ?_
      refine V.iadd dL_law_474 ?_
      obtain ⟨o272, H273⟩ := H271
      refine V.sld rfl dL_law_475 o272 ?_
      refine V.aload_n dL_law_476 rfl rfl ?_
      refine V.iload_n dL_law_477 rfl rfl ?_
      refine V.iconst (v := (3)) dL_law_478 (by decide) ?_
      refine V.iadd dL_law_479 ?_
      obtain ⟨o274, H275⟩ := H273
      refine V.sld rfl dL_law_480 o274 ?_
      obtain ⟨r276, I277, L278, t279, H280⟩ := H275
      refine V.dVi (N := mr_X9_add) (as := [.int (xs (x3 + (1 : Int32)).toNatClampNeg), .int (xs (x3 + (2 : Int32)).toNatClampNeg), .int (xs (x3 + (3 : Int32)).toNatClampNeg)]) dL_law_481 ml_L_65 ok_X9_add okV_X9_add ⟨Nat.le_of_ble_eq_true rfl, Nat.le_of_ble_eq_true rfl⟩ hm.1 rfl rfl rfl (Nat.le_of_ble_eq_true rfl) ⟨by decide, by decide⟩ t279 ?_
      refine V.icmp_eq (tgt := 928) dL_law_484 (by decide) (fun c281 => ?_) (fun c281 => ?_)
      · have H282 := H280.1 c281
        obtain ⟨y283, e284⟩ : ∃ y : Int32, y = x3 + 4 := ⟨_, rfl⟩
        have H285 := H282 y283 e284
        refine V.iinc (v := y283) (lo' := [(3, .int y283), (0, .ref 1000000), (1, .ref d), (2, .ref m)]) dL_law_928 rfl (by rw [e284]; rfl) (Nat.le_of_ble_eq_true rfl) rfl ?_
        refine V.goto (tgt := 18) dL_law_931 (by decide) ?_
        exact V.los [1, 2, 3, 0] rfl H285
      · have H286 := H280.2 c281
        refine V.iconst (v := (0)) dL_law_487 (by decide) ?_
        exact V.ret (v := some (.int (0 : Int32))) rfl (Or.inl ⟨_, rfl, dL_law_488, _, rfl, (by decide)⟩) ⟨by decide, by decide⟩ H286
    · have H287 := H8.2.2.2.2.2.2.2.2.2.2.2.2.1 c9
      refine V.tableIn (off := 457) (tgt := 489) dL_law_32 (by rw [c9]; decide) (by rw [c9]; decide) (by rw [c9]; rfl) (by decide) ?_
      refine V.aload_n dL_law_489 rfl rfl ?_
      refine V.aload_n dL_law_490 rfl rfl ?_
      refine V.iload_n dL_law_491 rfl rfl ?_
      refine V.iconst (v := (1)) dL_law_492 (by decide) ?_
      refine V.iadd dL_law_493 ?_
      obtain ⟨o288, H289⟩ := H287
      refine V.sld rfl dL_law_494 o288 ?_
      refine V.aload_n dL_law_495 rfl rfl ?_
      refine V.iload_n dL_law_496 rfl rfl ?_
      refine V.iconst (v := (2)) dL_law_497 (by decide) ?_
      refine V.iadd dL_law_498 ?_
      obtain ⟨o290, H291⟩ := H289
      refine V.sld rfl dL_law_499 o290 ?_
      refine V.aload_n dL_law_500 rfl rfl ?_
      refine V.iload_n dL_law_501 rfl rfl ?_
      refine V.iconst (v := (3)) dL_law_502 (by decide) ?_
      refine V.iadd dL_law_503 ?_
      obtain ⟨o292, H293⟩ := H291
      refine V.sld rfl dL_law_504 o292 ?_
      obtain ⟨r294, I295, L296, t297, H298⟩ := H293
      refine V.dVi (N := mr_X8_times) (as := [.int (xs (x3 + (1 : Int32)).toNatClampNeg), .int (xs (x3 + (2 : Int32)).toNatClampNeg), .int (xs (x3 + (3 : Int32)).toNatClampNeg)]) dL_law_505 ml_L_66 ok_X8_times okV_X8_times ⟨Nat.le_of_ble_eq_true rfl, Nat.le_of_ble_eq_true rfl⟩ hd.1 rfl rfl rfl (Nat.le_of_ble_eq_true rfl) ⟨by decide, by decide⟩ t297 ?_
      refine V.aload_n dL_law_508 rfl rfl ?_
      refine V.aload_n dL_law_509 rfl rfl ?_
      refine V.iload_n dL_law_510 rfl rfl ?_
      refine V.iconst (v := (1)) dL_law_511 (by decide) ?_
      refine V.iadd dL_law_512 ?_
      obtain ⟨o299, H300⟩ := H298
      refine V.sld rfl dL_law_513 o299 ?_
      refine V.aload_n dL_law_514 rfl rfl ?_
      refine V.iload_n dL_law_515 rfl rfl ?_
      refine V.iconst (v := (2)) dL_law_516 (by decide) ?_
      refine V.iadd dL_law_517 ?_
      obtain ⟨o301, H302⟩ := H300
      refine V.sld rfl dL_law_518 o301 ?_
      refine V.aload_n dL_law_519 rfl rfl ?_
      refine V.iload_n dL_law_520 rfl rfl ?_
      refine V.iconst (v := (3)) dL_law_521 (by decide) ?_
      refine V.iadd dL_law_522 ?_
      obtain ⟨o303, H304⟩ := H302
      refine V.sld rfl dL_law_523 o303 ?_
      obtain ⟨r305, I306, L307, t308, H309⟩ := H304
      refine V.dVi (N := mr_X9_times) (as := [.int (xs (x3 + (1 : Int32)).toNatClampNeg), .int (xs (x3 + (2 : Int32)).toNatClampNeg), .int (xs (x3 + (3 : Int32)).toNatClampNeg)]) dL_law_524 ml_L_69 ok_X9_times okV_X9_times ⟨Nat.le_of_ble_eq_true rfl, Nat.le_of_ble_eq_true rfl⟩ hm.1 rfl rfl rfl (Nat.le_of_ble_eq_true rfl) ⟨by decide, by decide⟩ t308 ?_
      refine V.icmp_eq (tgt := 928) dL_law_527 (by decide) (fun c310 => ?_) (fun c310 => ?_)
      · have H311 := H309.1 c310
        obtain ⟨y312, e313⟩ : ∃ y : Int32, y = x3 + 4 := ⟨_, rfl⟩
        have H314 := H311 y312 e313
        refine V.iinc (v := y312) (lo' := [(3, .int y312), (0, .ref 1000000), (1, .ref d), (2, .ref m)]) dL_law_928 rfl (by rw [e313]; rfl) (Nat.le_of_ble_eq_true rfl) rfl ?_
        refine V.goto (tgt := 18) dL_law_931 (by decide) ?_
        exact V.los [1, 2, 3, 0] rfl H314
      · have H315 := H309.2 c310
        refine V.iconst (v := (0)) dL_law_530 (by decide) ?_
        exact V.ret (v := some (.int (0 : Int32))) rfl (Or.inl ⟨_, rfl, dL_law_531, _, rfl, (by decide)⟩) ⟨by decide, by decide⟩ H315
    · have H316 := H8.2.2.2.2.2.2.2.2.2.2.2.2.2.1 c9
      refine V.tableIn (off := 500) (tgt := 532) dL_law_32 (by rw [c9]; decide) (by rw [c9]; decide) (by rw [c9]; rfl) (by decide) ?_
      refine V.aload_n dL_law_532 rfl rfl ?_
      refine V.aload_n dL_law_533 rfl rfl ?_
      refine V.iload_n dL_law_534 rfl rfl ?_
      refine V.iconst (v := (1)) dL_law_535 (by decide) ?_
      refine V.iadd dL_law_536 ?_
      obtain ⟨o317, H318⟩ := H316
      refine V.sld rfl dL_law_537 o317 ?_
      refine V.aload_n dL_law_538 rfl rfl ?_
      refine V.iload_n dL_law_539 rfl rfl ?_
      refine V.iconst (v := (2)) dL_law_540 (by decide) ?_
      refine V.iadd dL_law_541 ?_
      obtain ⟨o319, H320⟩ := H318
      refine V.sld rfl dL_law_542 o319 ?_
      refine V.aload_n dL_law_543 rfl rfl ?_
      refine V.iload_n dL_law_544 rfl rfl ?_
      refine V.iconst (v := (3)) dL_law_545 (by decide) ?_
      refine V.iadd dL_law_546 ?_
      obtain ⟨o321, H322⟩ := H320
      refine V.sld rfl dL_law_547 o321 ?_
      obtain ⟨r323, I324, L325, t326, H327⟩ := H322
      refine V.dVi (N := mr_X8_common) (as := [.int (xs (x3 + (1 : Int32)).toNatClampNeg), .int (xs (x3 + (2 : Int32)).toNatClampNeg), .int (xs (x3 + (3 : Int32)).toNatClampNeg)]) dL_law_548 ml_L_70 ok_X8_common okV_X8_common ⟨Nat.le_of_ble_eq_true rfl, Nat.le_of_ble_eq_true rfl⟩ hd.1 rfl rfl rfl (Nat.le_of_ble_eq_true rfl) ⟨by decide, by decide⟩ t326 ?_
      refine V.aload_n dL_law_551 rfl rfl ?_
      refine V.aload_n dL_law_552 rfl rfl ?_
      refine V.iload_n dL_law_553 rfl rfl ?_
      refine V.iconst (v := (1)) dL_law_554 (by decide) ?_
      refine V.iadd dL_law_555 ?_
      obtain ⟨o328, H329⟩ := H327
      refine V.sld rfl dL_law_556 o328 ?_
      refine V.aload_n dL_law_557 rfl rfl ?_
      refine V.iload_n dL_law_558 rfl rfl ?_
      refine V.iconst (v := (2)) dL_law_559 (by decide) ?_
      refine V.iadd dL_law_560 ?_
      obtain ⟨o330, H331⟩ := H329
      refine V.sld rfl dL_law_561 o330 ?_
      refine V.aload_n dL_law_562 rfl rfl ?_
      refine V.iload_n dL_law_563 rfl rfl ?_
      refine V.iconst (v := (3)) dL_law_564 (by decide) ?_
      refine V.iadd dL_law_565 ?_
      obtain ⟨o332, H333⟩ := H331
      refine V.sld rfl dL_law_566 o332 ?_
      obtain ⟨r334, I335, L336, t337, H338⟩ := H333
      refine V.dVi (N := mr_X9_common) (as := [.int (xs (x3 + (1 : Int32)).toNatClampNeg), .int (xs (x3 + (2 : Int32)).toNatClampNeg), .int (xs (x3 + (3 : Int32)).toNatClampNeg)]) dL_law_567 ml_L_73 ok_X9_common okV_X9_common ⟨Nat.le_of_ble_eq_true rfl, Nat.le_of_ble_eq_true rfl⟩ hm.1 rfl rfl rfl (Nat.le_of_ble_eq_true rfl) ⟨by decide, by decide⟩ t337 ?_
      refine V.icmp_eq (tgt := 928) dL_law_570 (by decide) (fun c339 => ?_) (fun c339 => ?_)
      · have H340 := H338.1 c339
        obtain ⟨y341, e342⟩ : ∃ y : Int32, y = x3 + 4 := ⟨_, rfl⟩
        have H343 := H340 y341 e342
        refine V.iinc (v := y341) (lo' := [(3, .int y341), (0, .ref 1000000), (1, .ref d), (2, .ref m)]) dL_law_928 rfl (by rw [e342]; rfl) (Nat.le_of_ble_eq_true rfl) rfl ?_
        refine V.goto (tgt := 18) dL_law_931 (by decide) ?_
        exact V.los [1, 2, 3, 0] rfl H343
      · have H344 := H338.2 c339
        refine V.iconst (v := (0)) dL_law_573 (by decide) ?_
        exact V.ret (v := some (.int (0 : Int32))) rfl (Or.inl ⟨_, rfl, dL_law_574, _, rfl, (by decide)⟩) ⟨by decide, by decide⟩ H344
    · have H345 := H8.2.2.2.2.2.2.2.2.2.2.2.2.2.2.1 c9
      refine V.tableIn (off := 543) (tgt := 575) dL_law_32 (by rw [c9]; decide) (by rw [c9]; decide) (by rw [c9]; rfl) (by decide) ?_
      refine V.aload_n dL_law_575 rfl rfl ?_
      refine V.aload_n dL_law_576 rfl rfl ?_
      refine V.iload_n dL_law_577 rfl rfl ?_
      refine V.iconst (v := (1)) dL_law_578 (by decide) ?_
      refine V.iadd dL_law_579 ?_
      obtain ⟨o346, H347⟩ := H345
      refine V.sld rfl dL_law_580 o346 ?_
      refine V.aload_n dL_law_581 rfl rfl ?_
      refine V.iload_n dL_law_582 rfl rfl ?_
      refine V.iconst (v := (2)) dL_law_583 (by decide) ?_
      refine V.iadd dL_law_584 ?_
      obtain ⟨o348, H349⟩ := H347
      refine V.sld rfl dL_law_585 o348 ?_
      obtain ⟨r350, I351, L352, t353, H354⟩ := H349
      refine V.dVi (N := mr_X8_slope) (as := [.int (xs (x3 + (1 : Int32)).toNatClampNeg), .int (xs (x3 + (2 : Int32)).toNatClampNeg)]) dL_law_586 ml_L_74 ok_X8_slope okV_X8_slope ⟨Nat.le_of_ble_eq_true rfl, Nat.le_of_ble_eq_true rfl⟩ hd.1 rfl rfl rfl (Nat.le_of_ble_eq_true rfl) ⟨by decide, by decide⟩ t353 ?_
      refine V.aload_n dL_law_589 rfl rfl ?_
      refine V.aload_n dL_law_590 rfl rfl ?_
      refine V.iload_n dL_law_591 rfl rfl ?_
      refine V.iconst (v := (1)) dL_law_592 (by decide) ?_
      refine V.iadd dL_law_593 ?_
      obtain ⟨o355, H356⟩ := H354
      refine V.sld rfl dL_law_594 o355 ?_
      refine V.aload_n dL_law_595 rfl rfl ?_
      refine V.iload_n dL_law_596 rfl rfl ?_
      refine V.iconst (v := (2)) dL_law_597 (by decide) ?_
      refine V.iadd dL_law_598 ?_
      obtain ⟨o357, H358⟩ := H356
      refine V.sld rfl dL_law_599 o357 ?_
      obtain ⟨r359, I360, L361, t362, H363⟩ := H358
      refine V.dVi (N := mr_X9_slope) (as := [.int (xs (x3 + (1 : Int32)).toNatClampNeg), .int (xs (x3 + (2 : Int32)).toNatClampNeg)]) dL_law_600 ml_L_77 ok_X9_slope okV_X9_slope ⟨Nat.le_of_ble_eq_true rfl, Nat.le_of_ble_eq_true rfl⟩ hm.1 rfl rfl rfl (Nat.le_of_ble_eq_true rfl) ⟨by decide, by decide⟩ t362 ?_
      refine V.icmp_eq (tgt := 928) dL_law_603 (by decide) (fun c364 => ?_) (fun c364 => ?_)
      · have H365 := H363.1 c364
        obtain ⟨y366, e367⟩ : ∃ y : Int32, y = x3 + 4 := ⟨_, rfl⟩
        have H368 := H365 y366 e367
        refine V.iinc (v := y366) (lo' := [(3, .int y366), (0, .ref 1000000), (1, .ref d), (2, .ref m)]) dL_law_928 rfl (by rw [e367]; rfl) (Nat.le_of_ble_eq_true rfl) rfl ?_
        refine V.goto (tgt := 18) dL_law_931 (by decide) ?_
        exact V.los [1, 2, 3, 0] rfl H368
      · have H369 := H363.2 c364
        refine V.iconst (v := (0)) dL_law_606 (by decide) ?_
        exact V.ret (v := some (.int (0 : Int32))) rfl (Or.inl ⟨_, rfl, dL_law_607, _, rfl, (by decide)⟩) ⟨by decide, by decide⟩ H369
    · have H370 := H8.2.2.2.2.2.2.2.2.2.2.2.2.2.2.2.1 c9
      refine V.tableIn (off := 576) (tgt := 608) dL_law_32 (by rw [c9]; decide) (by rw [c9]; decide) (by rw [c9]; rfl) (by decide) ?_
      refine V.aload_n dL_law_608 rfl rfl ?_
      refine V.aload_n dL_law_609 rfl rfl ?_
      refine V.iload_n dL_law_610 rfl rfl ?_
      refine V.iconst (v := (1)) dL_law_611 (by decide) ?_
      refine V.iadd dL_law_612 ?_
      obtain ⟨o371, H372⟩ := H370
      refine V.sld rfl dL_law_613 o371 ?_
      refine V.aload_n dL_law_614 rfl rfl ?_
      refine V.iload_n dL_law_615 rfl rfl ?_
      refine V.iconst (v := (2)) dL_law_616 (by decide) ?_
      refine V.iadd dL_law_617 ?_
      obtain ⟨o373, H374⟩ := H372
      refine V.sld rfl dL_law_618 o373 ?_
      refine V.aload_n dL_law_619 rfl rfl ?_
      refine V.iload_n dL_law_620 rfl rfl ?_
      refine V.iconst (v := (3)) dL_law_621 (by decide) ?_
      refine V.iadd dL_law_622 ?_
      obtain ⟨o375, H376⟩ := H374
      refine V.sld rfl dL_law_623 o375 ?_
      obtain ⟨r377, I378, L379, t380, H381⟩ := H376
      refine V.dVi (N := mr_X8_move) (as := [.int (xs (x3 + (1 : Int32)).toNatClampNeg), .int (xs (x3 + (2 : Int32)).toNatClampNeg), .int (xs (x3 + (3 : Int32)).toNatClampNeg)]) dL_law_624 ml_L_78 ok_X8_move okV_X8_move ⟨Nat.le_of_ble_eq_true rfl, Nat.le_of_ble_eq_true rfl⟩ hd.1 rfl rfl rfl (Nat.le_of_ble_eq_true rfl) ⟨by decide, by decide⟩ t380 ?_
      refine V.aload_n dL_law_627 rfl rfl ?_
      refine V.aload_n dL_law_628 rfl rfl ?_
      refine V.iload_n dL_law_629 rfl rfl ?_
      refine V.iconst (v := (1)) dL_law_630 (by decide) ?_
      refine V.iadd dL_law_631 ?_
      obtain ⟨o382, H383⟩ := H381
      refine V.sld rfl dL_law_632 o382 ?_
      refine V.aload_n dL_law_633 rfl rfl ?_
      refine V.iload_n dL_law_634 rfl rfl ?_
      refine V.iconst (v := (2)) dL_law_635 (by decide) ?_
      refine V.iadd dL_law_636 ?_
      obtain ⟨o384, H385⟩ := H383
      refine V.sld rfl dL_law_637 o384 ?_
      refine V.aload_n dL_law_638 rfl rfl ?_
      refine V.iload_n dL_law_639 rfl rfl ?_
      refine V.iconst (v := (3)) dL_law_640 (by decide) ?_
      refine V.iadd dL_law_641 ?_
      obtain ⟨o386, H387⟩ := H385
      refine V.sld rfl dL_law_642 o386 ?_
      obtain ⟨r388, I389, L390, t391, H392⟩ := H387
      refine V.dVi (N := mr_X9_move) (as := [.int (xs (x3 + (1 : Int32)).toNatClampNeg), .int (xs (x3 + (2 : Int32)).toNatClampNeg), .int (xs (x3 + (3 : Int32)).toNatClampNeg)]) dL_law_643 ml_L_81 ok_X9_move okV_X9_move ⟨Nat.le_of_ble_eq_true rfl, Nat.le_of_ble_eq_true rfl⟩ hm.1 rfl rfl rfl (Nat.le_of_ble_eq_true rfl) ⟨by decide, by decide⟩ t391 ?_
      refine V.icmp_eq (tgt := 928) dL_law_646 (by decide) (fun c393 => ?_) (fun c393 => ?_)
      · have H394 := H392.1 c393
        obtain ⟨y395, e396⟩ : ∃ y : Int32, y = x3 + 4 := ⟨_, rfl⟩
        have H397 := H394 y395 e396
        refine V.iinc (v := y395) (lo' := [(3, .int y395), (0, .ref 1000000), (1, .ref d), (2, .ref m)]) dL_law_928 rfl (by rw [e396]; rfl) (Nat.le_of_ble_eq_true rfl) rfl ?_
        refine V.goto (tgt := 18) dL_law_931 (by decide) ?_
        exact V.los [1, 2, 3, 0] rfl H397
      · have H398 := H392.2 c393
        refine V.iconst (v := (0)) dL_law_649 (by decide) ?_
        exact V.ret (v := some (.int (0 : Int32))) rfl (Or.inl ⟨_, rfl, dL_law_650, _, rfl, (by decide)⟩) ⟨by decide, by decide⟩ H398
    · have H399 := H8.2.2.2.2.2.2.2.2.2.2.2.2.2.2.2.2.1 c9
      refine V.tableIn (off := 619) (tgt := 651) dL_law_32 (by rw [c9]; decide) (by rw [c9]; decide) (by rw [c9]; rfl) (by decide) ?_
      refine V.aload_n dL_law_651 rfl rfl ?_
      refine V.aload_n dL_law_652 rfl rfl ?_
      refine V.iload_n dL_law_653 rfl rfl ?_
      refine V.iconst (v := (1)) dL_law_654 (by decide) ?_
      refine V.iadd dL_law_655 ?_
      obtain ⟨o400, H401⟩ := H399
      refine V.sld rfl dL_law_656 o400 ?_
      refine V.aload_n dL_law_657 rfl rfl ?_
      refine V.iload_n dL_law_658 rfl rfl ?_
      refine V.iconst (v := (2)) dL_law_659 (by decide) ?_
      refine V.iadd dL_law_660 ?_
      obtain ⟨o402, H403⟩ := H401
      refine V.sld rfl dL_law_661 o402 ?_
      obtain ⟨r404, I405, L406, t407, H408⟩ := H403
      refine V.dVi (N := mr_X8_be) (as := [.int (xs (x3 + (1 : Int32)).toNatClampNeg), .int (xs (x3 + (2 : Int32)).toNatClampNeg)]) dL_law_662 ml_L_82 ok_X8_be okV_X8_be ⟨Nat.le_of_ble_eq_true rfl, Nat.le_of_ble_eq_true rfl⟩ hd.1 rfl rfl rfl (Nat.le_of_ble_eq_true rfl) ⟨by decide, by decide⟩ t407 ?_
      refine V.aload_n dL_law_665 rfl rfl ?_
      refine V.aload_n dL_law_666 rfl rfl ?_
      refine V.iload_n dL_law_667 rfl rfl ?_
      refine V.iconst (v := (1)) dL_law_668 (by decide) ?_
      refine V.iadd dL_law_669 ?_
      obtain ⟨o409, H410⟩ := H408
      refine V.sld rfl dL_law_670 o409 ?_
      refine V.aload_n dL_law_671 rfl rfl ?_
      refine V.iload_n dL_law_672 rfl rfl ?_
      refine V.iconst (v := (2)) dL_law_673 (by decide) ?_
      refine V.iadd dL_law_674 ?_
      obtain ⟨o411, H412⟩ := H410
      refine V.sld rfl dL_law_675 o411 ?_
      obtain ⟨r413, I414, L415, t416, H417⟩ := H412
      refine V.dVi (N := mr_X9_be) (as := [.int (xs (x3 + (1 : Int32)).toNatClampNeg), .int (xs (x3 + (2 : Int32)).toNatClampNeg)]) dL_law_676 ml_L_85 ok_X9_be okV_X9_be ⟨Nat.le_of_ble_eq_true rfl, Nat.le_of_ble_eq_true rfl⟩ hm.1 rfl rfl rfl (Nat.le_of_ble_eq_true rfl) ⟨by decide, by decide⟩ t416 ?_
      refine V.icmp_eq (tgt := 928) dL_law_679 (by decide) (fun c418 => ?_) (fun c418 => ?_)
      · have H419 := H417.1 c418
        obtain ⟨y420, e421⟩ : ∃ y : Int32, y = x3 + 4 := ⟨_, rfl⟩
        have H422 := H419 y420 e421
        refine V.iinc (v := y420) (lo' := [(3, .int y420), (0, .ref 1000000), (1, .ref d), (2, .ref m)]) dL_law_928 rfl (by rw [e421]; rfl) (Nat.le_of_ble_eq_true rfl) rfl ?_
        refine V.goto (tgt := 18) dL_law_931 (by decide) ?_
        exact V.los [1, 2, 3, 0] rfl H422
      · have H423 := H417.2 c418
        refine V.iconst (v := (0)) dL_law_682 (by decide) ?_
        exact V.ret (v := some (.int (0 : Int32))) rfl (Or.inl ⟨_, rfl, dL_law_683, _, rfl, (by decide)⟩) ⟨by decide, by decide⟩ H423
    · have H424 := H8.2.2.2.2.2.2.2.2.2.2.2.2.2.2.2.2.2.1 c9
      refine V.tableIn (off := 652) (tgt := 684) dL_law_32 (by rw [c9]; decide) (by rw [c9]; decide) (by rw [c9]; rfl) (by decide) ?_
      refine V.aload_n dL_law_684 rfl rfl ?_
      refine V.aload_n dL_law_685 rfl rfl ?_
      refine V.iload_n dL_law_686 rfl rfl ?_
      refine V.iconst (v := (1)) dL_law_687 (by decide) ?_
      refine V.iadd dL_law_688 ?_
      obtain ⟨o425, H426⟩ := H424
      refine V.sld rfl dL_law_689 o425 ?_
      refine V.aload_n dL_law_690 rfl rfl ?_
      refine V.iload_n dL_law_691 rfl rfl ?_
      refine V.iconst (v := (2)) dL_law_692 (by decide) ?_
      refine V.iadd dL_law_693 ?_
      obtain ⟨o427, H428⟩ := H426
      refine V.sld rfl dL_law_694 o427 ?_
      refine V.aload_n dL_law_695 rfl rfl ?_
      refine V.iload_n dL_law_696 rfl rfl ?_
      refine V.iconst (v := (3)) dL_law_697 (by decide) ?_
      refine V.iadd dL_law_698 ?_
      obtain ⟨o429, H430⟩ := H428
      refine V.sld rfl dL_law_699 o429 ?_
      obtain ⟨r431, I432, L433, t434, H435⟩ := H430
      refine V.dVi (N := mr_X8_parts) (as := [.int (xs (x3 + (1 : Int32)).toNatClampNeg), .int (xs (x3 + (2 : Int32)).toNatClampNeg), .int (xs (x3 + (3 : Int32)).toNatClampNeg)]) dL_law_700 ml_L_86 ok_X8_parts okV_X8_parts ⟨Nat.le_of_ble_eq_true rfl, Nat.le_of_ble_eq_true rfl⟩ hd.1 rfl rfl rfl (Nat.le_of_ble_eq_true rfl) ⟨by decide, by decide⟩ t434 ?_
      refine V.aload_n dL_law_703 rfl rfl ?_
      refine V.aload_n dL_law_704 rfl rfl ?_
      refine V.iload_n dL_law_705 rfl rfl ?_
      refine V.iconst (v := (1)) dL_law_706 (by decide) ?_
      refine V.iadd dL_law_707 ?_
      obtain ⟨o436, H437⟩ := H435
      refine V.sld rfl dL_law_708 o436 ?_
      refine V.aload_n dL_law_709 rfl rfl ?_
      refine V.iload_n dL_law_710 rfl rfl ?_
      refine V.iconst (v := (2)) dL_law_711 (by decide) ?_
      refine V.iadd dL_law_712 ?_
      obtain ⟨o438, H439⟩ := H437
      refine V.sld rfl dL_law_713 o438 ?_
      refine V.aload_n dL_law_714 rfl rfl ?_
      refine V.iload_n dL_law_715 rfl rfl ?_
      refine V.iconst (v := (3)) dL_law_716 (by decide) ?_
      refine V.iadd dL_law_717 ?_
      obtain ⟨o440, H441⟩ := H439
      refine V.sld rfl dL_law_718 o440 ?_
      obtain ⟨r442, I443, L444, t445, H446⟩ := H441
      refine V.dVi (N := mr_X9_parts) (as := [.int (xs (x3 + (1 : Int32)).toNatClampNeg), .int (xs (x3 + (2 : Int32)).toNatClampNeg), .int (xs (x3 + (3 : Int32)).toNatClampNeg)]) dL_law_719 ml_L_89 ok_X9_parts okV_X9_parts ⟨Nat.le_of_ble_eq_true rfl, Nat.le_of_ble_eq_true rfl⟩ hm.1 rfl rfl rfl (Nat.le_of_ble_eq_true rfl) ⟨by decide, by decide⟩ t445 ?_
      refine V.icmp_eq (tgt := 928) dL_law_722 (by decide) (fun c447 => ?_) (fun c447 => ?_)
      · have H448 := H446.1 c447
        obtain ⟨y449, e450⟩ : ∃ y : Int32, y = x3 + 4 := ⟨_, rfl⟩
        have H451 := H448 y449 e450
        refine V.iinc (v := y449) (lo' := [(3, .int y449), (0, .ref 1000000), (1, .ref d), (2, .ref m)]) dL_law_928 rfl (by rw [e450]; rfl) (Nat.le_of_ble_eq_true rfl) rfl ?_
        refine V.goto (tgt := 18) dL_law_931 (by decide) ?_
        exact V.los [1, 2, 3, 0] rfl H451
      · have H452 := H446.2 c447
        refine V.iconst (v := (0)) dL_law_725 (by decide) ?_
        exact V.ret (v := some (.int (0 : Int32))) rfl (Or.inl ⟨_, rfl, dL_law_726, _, rfl, (by decide)⟩) ⟨by decide, by decide⟩ H452
    · have H453 := H8.2.2.2.2.2.2.2.2.2.2.2.2.2.2.2.2.2.2.1 c9
      refine V.tableIn (off := 695) (tgt := 727) dL_law_32 (by rw [c9]; decide) (by rw [c9]; decide) (by rw [c9]; rfl) (by decide) ?_
      refine V.aload_n dL_law_727 rfl rfl ?_
      refine V.aload_n dL_law_728 rfl rfl ?_
      refine V.iload_n dL_law_729 rfl rfl ?_
      refine V.iconst (v := (1)) dL_law_730 (by decide) ?_
      refine V.iadd dL_law_731 ?_
      obtain ⟨o454, H455⟩ := H453
      refine V.sld rfl dL_law_732 o454 ?_
      obtain ⟨r456, I457, L458, t459, H460⟩ := H455
      refine V.dVi (N := mr_X8_degrees) (as := [.int (xs (x3 + (1 : Int32)).toNatClampNeg)]) dL_law_733 ml_L_90 ok_X8_degrees okV_X8_degrees ⟨Nat.le_of_ble_eq_true rfl, Nat.le_of_ble_eq_true rfl⟩ hd.1 rfl rfl rfl (Nat.le_of_ble_eq_true rfl) ⟨by decide, by decide⟩ t459 ?_
      refine V.aload_n dL_law_736 rfl rfl ?_
      refine V.aload_n dL_law_737 rfl rfl ?_
      refine V.iload_n dL_law_738 rfl rfl ?_
      refine V.iconst (v := (1)) dL_law_739 (by decide) ?_
      refine V.iadd dL_law_740 ?_
      obtain ⟨o461, H462⟩ := H460
      refine V.sld rfl dL_law_741 o461 ?_
      obtain ⟨r463, I464, L465, t466, H467⟩ := H462
      refine V.dVi (N := mr_X9_degrees) (as := [.int (xs (x3 + (1 : Int32)).toNatClampNeg)]) dL_law_742 ml_L_93 ok_X9_degrees okV_X9_degrees ⟨Nat.le_of_ble_eq_true rfl, Nat.le_of_ble_eq_true rfl⟩ hm.1 rfl rfl rfl (Nat.le_of_ble_eq_true rfl) ⟨by decide, by decide⟩ t466 ?_
      refine V.icmp_eq (tgt := 928) dL_law_745 (by decide) (fun c468 => ?_) (fun c468 => ?_)
      · have H469 := H467.1 c468
        obtain ⟨y470, e471⟩ : ∃ y : Int32, y = x3 + 4 := ⟨_, rfl⟩
        have H472 := H469 y470 e471
        refine V.iinc (v := y470) (lo' := [(3, .int y470), (0, .ref 1000000), (1, .ref d), (2, .ref m)]) dL_law_928 rfl (by rw [e471]; rfl) (Nat.le_of_ble_eq_true rfl) rfl ?_
        refine V.goto (tgt := 18) dL_law_931 (by decide) ?_
        exact V.los [1, 2, 3, 0] rfl H472
      · have H473 := H467.2 c468
        refine V.iconst (v := (0)) dL_law_748 (by decide) ?_
        exact V.ret (v := some (.int (0 : Int32))) rfl (Or.inl ⟨_, rfl, dL_law_749, _, rfl, (by decide)⟩) ⟨by decide, by decide⟩ H473
    · have H474 := H8.2.2.2.2.2.2.2.2.2.2.2.2.2.2.2.2.2.2.2.1 c9
      refine V.tableIn (off := 718) (tgt := 750) dL_law_32 (by rw [c9]; decide) (by rw [c9]; decide) (by rw [c9]; rfl) (by decide) ?_
      refine V.aload_n dL_law_750 rfl rfl ?_
      refine V.aload_n dL_law_751 rfl rfl ?_
      refine V.iload_n dL_law_752 rfl rfl ?_
      refine V.iconst (v := (1)) dL_law_753 (by decide) ?_
      refine V.iadd dL_law_754 ?_
      obtain ⟨o475, H476⟩ := H474
      refine V.sld rfl dL_law_755 o475 ?_
      refine V.aload_n dL_law_756 rfl rfl ?_
      refine V.iload_n dL_law_757 rfl rfl ?_
      refine V.iconst (v := (2)) dL_law_758 (by decide) ?_
      refine V.iadd dL_law_759 ?_
      obtain ⟨o477, H478⟩ := H476
      refine V.sld rfl dL_law_760 o477 ?_
      refine V.aload_n dL_law_761 rfl rfl ?_
      refine V.iload_n dL_law_762 rfl rfl ?_
      refine V.iconst (v := (3)) dL_law_763 (by decide) ?_
      refine V.iadd dL_law_764 ?_
      obtain ⟨o479, H480⟩ := H478
      refine V.sld rfl dL_law_765 o479 ?_
      refine V.if_eq (tgt := 773) dL_law_766 (by decide) (fun c481 => ?_) (fun c481 => ?_)
      · have H482 := H480.1 c481
        refine V.iconst (v := (0)) dL_law_773 (by decide) ?_
        obtain ⟨r483, I484, L485, t486, H487⟩ := H482
        refine V.dVi (N := mr_X8_see) (as := [.int (xs (x3 + (1 : Int32)).toNatClampNeg), .int (xs (x3 + (2 : Int32)).toNatClampNeg), .int (0 : Int32)]) dL_law_774 ml_L_94 ok_X8_see okV_X8_see ⟨Nat.le_of_ble_eq_true rfl, Nat.le_of_ble_eq_true rfl⟩ hd.1 rfl rfl rfl (Nat.le_of_ble_eq_true rfl) ⟨by decide, by decide⟩ t486 ?_
        refine V.aload_n dL_law_777 rfl rfl ?_
        refine V.aload_n dL_law_778 rfl rfl ?_
        refine V.iload_n dL_law_779 rfl rfl ?_
        refine V.iconst (v := (1)) dL_law_780 (by decide) ?_
        refine V.iadd dL_law_781 ?_
        obtain ⟨o488, H489⟩ := H487
        refine V.sld rfl dL_law_782 o488 ?_
        refine V.aload_n dL_law_783 rfl rfl ?_
        refine V.iload_n dL_law_784 rfl rfl ?_
        refine V.iconst (v := (2)) dL_law_785 (by decide) ?_
        refine V.iadd dL_law_786 ?_
        obtain ⟨o490, H491⟩ := H489
        refine V.sld rfl dL_law_787 o490 ?_
        refine V.aload_n dL_law_788 rfl rfl ?_
        refine V.iload_n dL_law_789 rfl rfl ?_
        refine V.iconst (v := (3)) dL_law_790 (by decide) ?_
        refine V.iadd dL_law_791 ?_
        obtain ⟨o492, H493⟩ := H491
        refine V.sld rfl dL_law_792 o492 ?_
        refine V.if_eq (tgt := 800) dL_law_793 (by decide) (fun c494 => ?_) (fun c494 => ?_)
        · have H495 := H493.1 c494
          refine V.iconst (v := (0)) dL_law_800 (by decide) ?_
          obtain ⟨r496, I497, L498, t499, H500⟩ := H495
          refine V.dVi (N := mr_X9_see) (as := [.int (xs (x3 + (1 : Int32)).toNatClampNeg), .int (xs (x3 + (2 : Int32)).toNatClampNeg), .int (0 : Int32)]) dL_law_801 ml_L_98 ok_X9_see okV_X9_see ⟨Nat.le_of_ble_eq_true rfl, Nat.le_of_ble_eq_true rfl⟩ hm.1 rfl rfl rfl (Nat.le_of_ble_eq_true rfl) ⟨by decide, by decide⟩ t499 ?_
          refine V.icmp_eq (tgt := 928) dL_law_804 (by decide) (fun c501 => ?_) (fun c501 => ?_)
          · have H502 := H500.1 c501
            obtain ⟨y503, e504⟩ : ∃ y : Int32, y = x3 + 4 := ⟨_, rfl⟩
            have H505 := H502 y503 e504
            refine V.iinc (v := y503) (lo' := [(3, .int y503), (0, .ref 1000000), (1, .ref d), (2, .ref m)]) dL_law_928 rfl (by rw [e504]; rfl) (Nat.le_of_ble_eq_true rfl) rfl ?_
            refine V.goto (tgt := 18) dL_law_931 (by decide) ?_
            exact V.los [1, 2, 3, 0] rfl H505
          · have H506 := H500.2 c501
            refine V.iconst (v := (0)) dL_law_807 (by decide) ?_
            exact V.ret (v := some (.int (0 : Int32))) rfl (Or.inl ⟨_, rfl, dL_law_808, _, rfl, (by decide)⟩) ⟨by decide, by decide⟩ H506
        · have H507 := H493.2 c494
          refine V.iconst (v := (1)) dL_law_796 (by decide) ?_
          refine V.goto (tgt := 801) dL_law_797 (by decide) ?_
          obtain ⟨r508, I509, L510, t511, H512⟩ := H507
          refine V.dVi (N := mr_X9_see) (as := [.int (xs (x3 + (1 : Int32)).toNatClampNeg), .int (xs (x3 + (2 : Int32)).toNatClampNeg), .int (1 : Int32)]) dL_law_801 ml_L_98 ok_X9_see okV_X9_see ⟨Nat.le_of_ble_eq_true rfl, Nat.le_of_ble_eq_true rfl⟩ hm.1 rfl rfl rfl (Nat.le_of_ble_eq_true rfl) ⟨by decide, by decide⟩ t511 ?_
          refine V.icmp_eq (tgt := 928) dL_law_804 (by decide) (fun c513 => ?_) (fun c513 => ?_)
          · have H514 := H512.1 c513
            obtain ⟨y515, e516⟩ : ∃ y : Int32, y = x3 + 4 := ⟨_, rfl⟩
            have H517 := H514 y515 e516
            refine V.iinc (v := y515) (lo' := [(3, .int y515), (0, .ref 1000000), (1, .ref d), (2, .ref m)]) dL_law_928 rfl (by rw [e516]; rfl) (Nat.le_of_ble_eq_true rfl) rfl ?_
            refine V.goto (tgt := 18) dL_law_931 (by decide) ?_
            exact V.los [1, 2, 3, 0] rfl H517
          · have H518 := H512.2 c513
            refine V.iconst (v := (0)) dL_law_807 (by decide) ?_
            exact V.ret (v := some (.int (0 : Int32))) rfl (Or.inl ⟨_, rfl, dL_law_808, _, rfl, (by decide)⟩) ⟨by decide, by decide⟩ H518
      · have H519 := H480.2 c481
        refine V.iconst (v := (1)) dL_law_769 (by decide) ?_
        refine V.goto (tgt := 774) dL_law_770 (by decide) ?_
        obtain ⟨r520, I521, L522, t523, H524⟩ := H519
        refine V.dVi (N := mr_X8_see) (as := [.int (xs (x3 + (1 : Int32)).toNatClampNeg), .int (xs (x3 + (2 : Int32)).toNatClampNeg), .int (1 : Int32)]) dL_law_774 ml_L_94 ok_X8_see okV_X8_see ⟨Nat.le_of_ble_eq_true rfl, Nat.le_of_ble_eq_true rfl⟩ hd.1 rfl rfl rfl (Nat.le_of_ble_eq_true rfl) ⟨by decide, by decide⟩ t523 ?_
        refine V.aload_n dL_law_777 rfl rfl ?_
        refine V.aload_n dL_law_778 rfl rfl ?_
        refine V.iload_n dL_law_779 rfl rfl ?_
        refine V.iconst (v := (1)) dL_law_780 (by decide) ?_
        refine V.iadd dL_law_781 ?_
        obtain ⟨o525, H526⟩ := H524
        refine V.sld rfl dL_law_782 o525 ?_
        refine V.aload_n dL_law_783 rfl rfl ?_
        refine V.iload_n dL_law_784 rfl rfl ?_
        refine V.iconst (v := (2)) dL_law_785 (by decide) ?_
        refine V.iadd dL_law_786 ?_
        obtain ⟨o527, H528⟩ := H526
        refine V.sld rfl dL_law_787 o527 ?_
        refine V.aload_n dL_law_788 rfl rfl ?_
        refine V.iload_n dL_law_789 rfl rfl ?_
        refine V.iconst (v := (3)) dL_law_790 (by decide) ?_
        refine V.iadd dL_law_791 ?_
        obtain ⟨o529, H530⟩ := H528
        refine V.sld rfl dL_law_792 o529 ?_
        refine V.if_eq (tgt := 800) dL_law_793 (by decide) (fun c531 => ?_) (fun c531 => ?_)
        · have H532 := H530.1 c531
          refine V.iconst (v := (0)) dL_law_800 (by decide) ?_
          obtain ⟨r533, I534, L535, t536, H537⟩ := H532
          refine V.dVi (N := mr_X9_see) (as := [.int (xs (x3 + (1 : Int32)).toNatClampNeg), .int (xs (x3 + (2 : Int32)).toNatClampNeg), .int (0 : Int32)]) dL_law_801 ml_L_98 ok_X9_see okV_X9_see ⟨Nat.le_of_ble_eq_true rfl, Nat.le_of_ble_eq_true rfl⟩ hm.1 rfl rfl rfl (Nat.le_of_ble_eq_true rfl) ⟨by decide, by decide⟩ t536 ?_
          refine V.icmp_eq (tgt := 928) dL_law_804 (by decide) (fun c538 => ?_) (fun c538 => ?_)
          · have H539 := H537.1 c538
            obtain ⟨y540, e541⟩ : ∃ y : Int32, y = x3 + 4 := ⟨_, rfl⟩
            have H542 := H539 y540 e541
            refine V.iinc (v := y540) (lo' := [(3, .int y540), (0, .ref 1000000), (1, .ref d), (2, .ref m)]) dL_law_928 rfl (by rw [e541]; rfl) (Nat.le_of_ble_eq_true rfl) rfl ?_
            refine V.goto (tgt := 18) dL_law_931 (by decide) ?_
            exact V.los [1, 2, 3, 0] rfl H542
          · have H543 := H537.2 c538
            refine V.iconst (v := (0)) dL_law_807 (by decide) ?_
            exact V.ret (v := some (.int (0 : Int32))) rfl (Or.inl ⟨_, rfl, dL_law_808, _, rfl, (by decide)⟩) ⟨by decide, by decide⟩ H543
        · have H544 := H530.2 c531
          refine V.iconst (v := (1)) dL_law_796 (by decide) ?_
          refine V.goto (tgt := 801) dL_law_797 (by decide) ?_
          obtain ⟨r545, I546, L547, t548, H549⟩ := H544
          refine V.dVi (N := mr_X9_see) (as := [.int (xs (x3 + (1 : Int32)).toNatClampNeg), .int (xs (x3 + (2 : Int32)).toNatClampNeg), .int (1 : Int32)]) dL_law_801 ml_L_98 ok_X9_see okV_X9_see ⟨Nat.le_of_ble_eq_true rfl, Nat.le_of_ble_eq_true rfl⟩ hm.1 rfl rfl rfl (Nat.le_of_ble_eq_true rfl) ⟨by decide, by decide⟩ t548 ?_
          refine V.icmp_eq (tgt := 928) dL_law_804 (by decide) (fun c550 => ?_) (fun c550 => ?_)
          · have H551 := H549.1 c550
            obtain ⟨y552, e553⟩ : ∃ y : Int32, y = x3 + 4 := ⟨_, rfl⟩
            have H554 := H551 y552 e553
            refine V.iinc (v := y552) (lo' := [(3, .int y552), (0, .ref 1000000), (1, .ref d), (2, .ref m)]) dL_law_928 rfl (by rw [e553]; rfl) (Nat.le_of_ble_eq_true rfl) rfl ?_
            refine V.goto (tgt := 18) dL_law_931 (by decide) ?_
            exact V.los [1, 2, 3, 0] rfl H554
          · have H555 := H549.2 c550
            refine V.iconst (v := (0)) dL_law_807 (by decide) ?_
            exact V.ret (v := some (.int (0 : Int32))) rfl (Or.inl ⟨_, rfl, dL_law_808, _, rfl, (by decide)⟩) ⟨by decide, by decide⟩ H555
    · have H556 := H8.2.2.2.2.2.2.2.2.2.2.2.2.2.2.2.2.2.2.2.2.1 c9
      refine V.tableIn (off := 777) (tgt := 809) dL_law_32 (by rw [c9]; decide) (by rw [c9]; decide) (by rw [c9]; rfl) (by decide) ?_
      refine V.aload_n dL_law_809 rfl rfl ?_
      obtain ⟨r557, I558, L559, t560, H561⟩ := H556
      refine V.dVi (N := mr_X8_forget) (as := []) dL_law_810 ml_L_99 ok_X8_forget okV_X8_forget ⟨Nat.le_of_ble_eq_true rfl, Nat.le_of_ble_eq_true rfl⟩ hd.1 rfl rfl rfl (Nat.le_of_ble_eq_true rfl) ⟨by decide, by decide⟩ t560 ?_
      refine V.aload_n dL_law_813 rfl rfl ?_
      obtain ⟨r562, I563, L564, t565, H566⟩ := H561
      refine V.dVi (N := mr_X9_forget) (as := []) dL_law_814 ml_L_102 ok_X9_forget okV_X9_forget ⟨Nat.le_of_ble_eq_true rfl, Nat.le_of_ble_eq_true rfl⟩ hm.1 rfl rfl rfl (Nat.le_of_ble_eq_true rfl) ⟨by decide, by decide⟩ t565 ?_
      refine V.icmp_eq (tgt := 928) dL_law_817 (by decide) (fun c567 => ?_) (fun c567 => ?_)
      · have H568 := H566.1 c567
        obtain ⟨y569, e570⟩ : ∃ y : Int32, y = x3 + 4 := ⟨_, rfl⟩
        have H571 := H568 y569 e570
        refine V.iinc (v := y569) (lo' := [(3, .int y569), (0, .ref 1000000), (1, .ref d), (2, .ref m)]) dL_law_928 rfl (by rw [e570]; rfl) (Nat.le_of_ble_eq_true rfl) rfl ?_
        refine V.goto (tgt := 18) dL_law_931 (by decide) ?_
        exact V.los [1, 2, 3, 0] rfl H571
      · have H572 := H566.2 c567
        refine V.iconst (v := (0)) dL_law_820 (by decide) ?_
        exact V.ret (v := some (.int (0 : Int32))) rfl (Or.inl ⟨_, rfl, dL_law_821, _, rfl, (by decide)⟩) ⟨by decide, by decide⟩ H572
    · have H573 := H8.2.2.2.2.2.2.2.2.2.2.2.2.2.2.2.2.2.2.2.2.2.1 c9
      refine V.tableIn (off := 790) (tgt := 822) dL_law_32 (by rw [c9]; decide) (by rw [c9]; decide) (by rw [c9]; rfl) (by decide) ?_
      refine V.aload_n dL_law_822 rfl rfl ?_
      refine V.aload_n dL_law_823 rfl rfl ?_
      refine V.iload_n dL_law_824 rfl rfl ?_
      refine V.iconst (v := (1)) dL_law_825 (by decide) ?_
      refine V.iadd dL_law_826 ?_
      obtain ⟨o574, H575⟩ := H573
      refine V.sld rfl dL_law_827 o574 ?_
      refine V.aload_n dL_law_828 rfl rfl ?_
      refine V.iload_n dL_law_829 rfl rfl ?_
      refine V.iconst (v := (2)) dL_law_830 (by decide) ?_
      refine V.iadd dL_law_831 ?_
      obtain ⟨o576, H577⟩ := H575
      refine V.sld rfl dL_law_832 o576 ?_
      refine V.aload_n dL_law_833 rfl rfl ?_
      refine V.iload_n dL_law_834 rfl rfl ?_
      refine V.iconst (v := (3)) dL_law_835 (by decide) ?_
      refine V.iadd dL_law_836 ?_
      obtain ⟨o578, H579⟩ := H577
      refine V.sld rfl dL_law_837 o578 ?_
      obtain ⟨r580, I581, L582, t583, H584⟩ := H579
      refine V.dVi (N := mr_X8_drawn) (as := [.int (xs (x3 + (1 : Int32)).toNatClampNeg), .int (xs (x3 + (2 : Int32)).toNatClampNeg), .int (xs (x3 + (3 : Int32)).toNatClampNeg)]) dL_law_838 ml_L_103 ok_X8_drawn okV_X8_drawn ⟨Nat.le_of_ble_eq_true rfl, Nat.le_of_ble_eq_true rfl⟩ hd.1 rfl rfl rfl (Nat.le_of_ble_eq_true rfl) ⟨by decide, by decide⟩ t583 ?_
      refine V.aload_n dL_law_841 rfl rfl ?_
      refine V.aload_n dL_law_842 rfl rfl ?_
      refine V.iload_n dL_law_843 rfl rfl ?_
      refine V.iconst (v := (1)) dL_law_844 (by decide) ?_
      refine V.iadd dL_law_845 ?_
      obtain ⟨o585, H586⟩ := H584
      refine V.sld rfl dL_law_846 o585 ?_
      refine V.aload_n dL_law_847 rfl rfl ?_
      refine V.iload_n dL_law_848 rfl rfl ?_
      refine V.iconst (v := (2)) dL_law_849 (by decide) ?_
      refine V.iadd dL_law_850 ?_
      obtain ⟨o587, H588⟩ := H586
      refine V.sld rfl dL_law_851 o587 ?_
      refine V.aload_n dL_law_852 rfl rfl ?_
      refine V.iload_n dL_law_853 rfl rfl ?_
      refine V.iconst (v := (3)) dL_law_854 (by decide) ?_
      refine V.iadd dL_law_855 ?_
      obtain ⟨o589, H590⟩ := H588
      refine V.sld rfl dL_law_856 o589 ?_
      obtain ⟨r591, I592, L593, t594, H595⟩ := H590
      refine V.dVi (N := mr_X9_drawn) (as := [.int (xs (x3 + (1 : Int32)).toNatClampNeg), .int (xs (x3 + (2 : Int32)).toNatClampNeg), .int (xs (x3 + (3 : Int32)).toNatClampNeg)]) dL_law_857 ml_L_106 ok_X9_drawn okV_X9_drawn ⟨Nat.le_of_ble_eq_true rfl, Nat.le_of_ble_eq_true rfl⟩ hm.1 rfl rfl rfl (Nat.le_of_ble_eq_true rfl) ⟨by decide, by decide⟩ t594 ?_
      refine V.icmp_eq (tgt := 928) dL_law_860 (by decide) (fun c596 => ?_) (fun c596 => ?_)
      · have H597 := H595.1 c596
        obtain ⟨y598, e599⟩ : ∃ y : Int32, y = x3 + 4 := ⟨_, rfl⟩
        have H600 := H597 y598 e599
        refine V.iinc (v := y598) (lo' := [(3, .int y598), (0, .ref 1000000), (1, .ref d), (2, .ref m)]) dL_law_928 rfl (by rw [e599]; rfl) (Nat.le_of_ble_eq_true rfl) rfl ?_
        refine V.goto (tgt := 18) dL_law_931 (by decide) ?_
        exact V.los [1, 2, 3, 0] rfl H600
      · have H601 := H595.2 c596
        refine V.iconst (v := (0)) dL_law_863 (by decide) ?_
        exact V.ret (v := some (.int (0 : Int32))) rfl (Or.inl ⟨_, rfl, dL_law_864, _, rfl, (by decide)⟩) ⟨by decide, by decide⟩ H601
    · have H602 := H8.2.2.2.2.2.2.2.2.2.2.2.2.2.2.2.2.2.2.2.2.2.2.1 c9
      refine V.tableIn (off := 833) (tgt := 865) dL_law_32 (by rw [c9]; decide) (by rw [c9]; decide) (by rw [c9]; rfl) (by decide) ?_
      refine V.aload_n dL_law_865 rfl rfl ?_
      obtain ⟨r603, I604, L605, t606, H607⟩ := H602
      refine V.dVi (N := mr_X8_image) (as := []) dL_law_866 ml_L_107 ok_X8_image okV_X8_image ⟨Nat.le_of_ble_eq_true rfl, Nat.le_of_ble_eq_true rfl⟩ hd.1 rfl rfl rfl (Nat.le_of_ble_eq_true rfl) ⟨by decide, by decide⟩ t606 ?_
      refine V.aload_n dL_law_869 rfl rfl ?_
      obtain ⟨r608, I609, L610, t611, H612⟩ := H607
      refine V.dVi (N := mr_X9_image) (as := []) dL_law_870 ml_L_110 ok_X9_image okV_X9_image ⟨Nat.le_of_ble_eq_true rfl, Nat.le_of_ble_eq_true rfl⟩ hm.1 rfl rfl rfl (Nat.le_of_ble_eq_true rfl) ⟨by decide, by decide⟩ t611 ?_
      refine V.icmp_eq (tgt := 928) dL_law_873 (by decide) (fun c613 => ?_) (fun c613 => ?_)
      · have H614 := H612.1 c613
        obtain ⟨y615, e616⟩ : ∃ y : Int32, y = x3 + 4 := ⟨_, rfl⟩
        have H617 := H614 y615 e616
        refine V.iinc (v := y615) (lo' := [(3, .int y615), (0, .ref 1000000), (1, .ref d), (2, .ref m)]) dL_law_928 rfl (by rw [e616]; rfl) (Nat.le_of_ble_eq_true rfl) rfl ?_
        refine V.goto (tgt := 18) dL_law_931 (by decide) ?_
        exact V.los [1, 2, 3, 0] rfl H617
      · have H618 := H612.2 c613
        refine V.iconst (v := (0)) dL_law_876 (by decide) ?_
        exact V.ret (v := some (.int (0 : Int32))) rfl (Or.inl ⟨_, rfl, dL_law_877, _, rfl, (by decide)⟩) ⟨by decide, by decide⟩ H618
    · have H619 := H8.2.2.2.2.2.2.2.2.2.2.2.2.2.2.2.2.2.2.2.2.2.2.2.1 c9
      refine V.tableIn (off := 846) (tgt := 878) dL_law_32 (by rw [c9]; decide) (by rw [c9]; decide) (by rw [c9]; rfl) (by decide) ?_
      refine V.aload_n dL_law_878 rfl rfl ?_
      obtain ⟨r620, I621, L622, t623, H624⟩ := H619
      refine V.dVi (N := mr_X8_restore) (as := []) dL_law_879 ml_L_111 ok_X8_restore okV_X8_restore ⟨Nat.le_of_ble_eq_true rfl, Nat.le_of_ble_eq_true rfl⟩ hd.1 rfl rfl rfl (Nat.le_of_ble_eq_true rfl) ⟨by decide, by decide⟩ t623 ?_
      refine V.aload_n dL_law_882 rfl rfl ?_
      obtain ⟨r625, I626, L627, t628, H629⟩ := H624
      refine V.dVi (N := mr_X9_restore) (as := []) dL_law_883 ml_L_114 ok_X9_restore okV_X9_restore ⟨Nat.le_of_ble_eq_true rfl, Nat.le_of_ble_eq_true rfl⟩ hm.1 rfl rfl rfl (Nat.le_of_ble_eq_true rfl) ⟨by decide, by decide⟩ t628 ?_
      refine V.icmp_eq (tgt := 928) dL_law_886 (by decide) (fun c630 => ?_) (fun c630 => ?_)
      · have H631 := H629.1 c630
        obtain ⟨y632, e633⟩ : ∃ y : Int32, y = x3 + 4 := ⟨_, rfl⟩
        have H634 := H631 y632 e633
        refine V.iinc (v := y632) (lo' := [(3, .int y632), (0, .ref 1000000), (1, .ref d), (2, .ref m)]) dL_law_928 rfl (by rw [e633]; rfl) (Nat.le_of_ble_eq_true rfl) rfl ?_
        refine V.goto (tgt := 18) dL_law_931 (by decide) ?_
        exact V.los [1, 2, 3, 0] rfl H634
      · have H635 := H629.2 c630
        refine V.iconst (v := (0)) dL_law_889 (by decide) ?_
        exact V.ret (v := some (.int (0 : Int32))) rfl (Or.inl ⟨_, rfl, dL_law_890, _, rfl, (by decide)⟩) ⟨by decide, by decide⟩ H635
    · have H636 := H8.2.2.2.2.2.2.2.2.2.2.2.2.2.2.2.2.2.2.2.2.2.2.2.2.1 c9
      refine V.tableIn (off := 859) (tgt := 891) dL_law_32 (by rw [c9]; decide) (by rw [c9]; decide) (by rw [c9]; rfl) (by decide) ?_
      refine V.aload_n dL_law_891 rfl rfl ?_
      refine V.aload_n dL_law_892 rfl rfl ?_
      refine V.iload_n dL_law_893 rfl rfl ?_
      refine V.iconst (v := (1)) dL_law_894 (by decide) ?_
      refine V.iadd dL_law_895 ?_
      obtain ⟨o637, H638⟩ := H636
      refine V.sld rfl dL_law_896 o637 ?_
      obtain ⟨r639, I640, L641, t642, H643⟩ := H638
      refine V.dVi (N := mr_X8_count) (as := [.int (xs (x3 + (1 : Int32)).toNatClampNeg)]) dL_law_897 ml_L_115 ok_X8_count okV_X8_count ⟨Nat.le_of_ble_eq_true rfl, Nat.le_of_ble_eq_true rfl⟩ hd.1 rfl rfl rfl (Nat.le_of_ble_eq_true rfl) ⟨by decide, by decide⟩ t642 ?_
      refine V.aload_n dL_law_900 rfl rfl ?_
      refine V.aload_n dL_law_901 rfl rfl ?_
      refine V.iload_n dL_law_902 rfl rfl ?_
      refine V.iconst (v := (1)) dL_law_903 (by decide) ?_
      refine V.iadd dL_law_904 ?_
      obtain ⟨o644, H645⟩ := H643
      refine V.sld rfl dL_law_905 o644 ?_
      obtain ⟨r646, I647, L648, t649, H650⟩ := H645
      refine V.dVi (N := mr_X9_count) (as := [.int (xs (x3 + (1 : Int32)).toNatClampNeg)]) dL_law_906 ml_L_118 ok_X9_count okV_X9_count ⟨Nat.le_of_ble_eq_true rfl, Nat.le_of_ble_eq_true rfl⟩ hm.1 rfl rfl rfl (Nat.le_of_ble_eq_true rfl) ⟨by decide, by decide⟩ t649 ?_
      refine V.icmp_eq (tgt := 928) dL_law_909 (by decide) (fun c651 => ?_) (fun c651 => ?_)
      · have H652 := H650.1 c651
        obtain ⟨y653, e654⟩ : ∃ y : Int32, y = x3 + 4 := ⟨_, rfl⟩
        have H655 := H652 y653 e654
        refine V.iinc (v := y653) (lo' := [(3, .int y653), (0, .ref 1000000), (1, .ref d), (2, .ref m)]) dL_law_928 rfl (by rw [e654]; rfl) (Nat.le_of_ble_eq_true rfl) rfl ?_
        refine V.goto (tgt := 18) dL_law_931 (by decide) ?_
        exact V.los [1, 2, 3, 0] rfl H655
      · have H656 := H650.2 c651
        refine V.iconst (v := (0)) dL_law_912 (by decide) ?_
        exact V.ret (v := some (.int (0 : Int32))) rfl (Or.inl ⟨_, rfl, dL_law_913, _, rfl, (by decide)⟩) ⟨by decide, by decide⟩ H656
    · have H657 := H8.2.2.2.2.2.2.2.2.2.2.2.2.2.2.2.2.2.2.2.2.2.2.2.2.2.1 c9
      refine V.tableIn (off := 882) (tgt := 914) dL_law_32 (by rw [c9]; decide) (by rw [c9]; decide) (by rw [c9]; rfl) (by decide) ?_
      refine V.aload_n dL_law_914 rfl rfl ?_
      obtain ⟨r658, I659, L660, t661, H662⟩ := H657
      refine V.dVl (N := mr_X8_digest) (as := []) dL_law_915 ml_L_119 ok_X8_digest okV_X8_digest ⟨Nat.le_of_ble_eq_true rfl, Nat.le_of_ble_eq_true rfl⟩ hd.1 rfl rfl rfl (Nat.le_of_ble_eq_true rfl) ⟨by decide, by decide⟩ t661 ?_
      refine V.aload_n dL_law_918 rfl rfl ?_
      obtain ⟨r663, I664, L665, t666, H667⟩ := H662
      refine V.dVl (N := mr_X9_digest) (as := []) dL_law_919 ml_L_123 ok_X9_digest okV_X9_digest ⟨Nat.le_of_ble_eq_true rfl, Nat.le_of_ble_eq_true rfl⟩ hm.1 rfl rfl rfl (Nat.le_of_ble_eq_true rfl) ⟨by decide, by decide⟩ t666 ?_
      refine V.lc_eq (tgt := 928) dL_law_922 dL_law_923 (by decide) (fun c668 => ?_) (fun c668 => ?_)
      · have H669 := H667.1 c668
        obtain ⟨y670, e671⟩ : ∃ y : Int32, y = x3 + 4 := ⟨_, rfl⟩
        have H672 := H669 y670 e671
        refine V.iinc (v := y670) (lo' := [(3, .int y670), (0, .ref 1000000), (1, .ref d), (2, .ref m)]) dL_law_928 rfl (by rw [e671]; rfl) (Nat.le_of_ble_eq_true rfl) rfl ?_
        refine V.goto (tgt := 18) dL_law_931 (by decide) ?_
        exact V.los [1, 2, 3, 0] rfl H672
      · have H673 := H667.2 c668
        refine V.iconst (v := (0)) dL_law_926 (by decide) ?_
        exact V.ret (v := some (.int (0 : Int32))) rfl (Or.inl ⟨_, rfl, dL_law_927, _, rfl, (by decide)⟩) ⟨by decide, by decide⟩ H673
    · have H674 := H8.2.2.2.2.2.2.2.2.2.2.2.2.2.2.2.2.2.2.2.2.2.2.2.2.2.2 c9
      refine V.tableOut (tgt := 928) dL_law_32 c9 (by decide) ?_
      obtain ⟨y675, e676⟩ : ∃ y : Int32, y = x3 + 4 := ⟨_, rfl⟩
      have H677 := H674 y675 e676
      refine V.iinc (v := y675) (lo' := [(3, .int y675), (0, .ref 1000000), (1, .ref d), (2, .ref m)]) dL_law_928 rfl (by rw [e676]; rfl) (Nat.le_of_ble_eq_true rfl) rfl ?_
      refine V.goto (tgt := 18) dL_law_931 (by decide) ?_
      exact V.los [1, 2, 3, 0] rfl H677
def SHd : List mjD := [(8, 15, [some 1, some 3, some 5, some 8, some 10, some 12, some 21, some 34, some 38, some 39, none, none, some 42, some 43, none]), (2, 2, [some 2, none]), (10, 40, []), (2, 2, [some 4, none]), (10, 40, []), (6, 6, [some 6, none, none, none, none, none]), (5, 1, [some 7]), (11, 6, []), (5, 1, [some 9]), (11, 6, []), (5, 1, [some 11]), (11, 6, []), (0, 7, [some 13, some 15, some 17, some 19, some 20, none, none]), (5, 1, [some 14]), (11, 6, []), (5, 1, [some 16]), (11, 6, []), (5, 1, [some 18]), (11, 6, []), (10, 32, []), (10, 32, []), (1, 3, [some 22, some 23, none]), (13, 5, [some 24, some 26, some 28, some 30, some 32]), (10, 5, []), (5, 1, [some 25]), (11, 6, []), (5, 1, [some 27]), (11, 6, []), (5, 1, [some 29]), (11, 6, []), (5, 1, [some 31]), (11, 6, []), (5, 1, [some 33]), (11, 6, []), (4, 5, [some 35, some 36, some 37, none, none]), (11, 8, []), (11, 8, []), (10, 6, []), (14, 4, [some 46, some 78, some 110, some 142]), (3, 3, [some 40, some 41, none]), (10, 6, []), (10, 6, []), (14, 4, [some 62, some 94, some 126, some 158]), (3, 3, [some 44, some 45, none]), (10, 6, []), (10, 6, []), (7, 4, [some 47, some 49, none, none]), (5, 1, [some 48]), (11, 6, []), (1, 3, [some 50, some 51, none]), (13, 5, [some 52, some 54, some 56, some 58, some 60]), (10, 5, []), (5, 1, [some 53]), (11, 6, []), (5, 1, [some 55]), (11, 6, []), (5, 1, [some 57]), (11, 6, []), (5, 1, [some 59]), (11, 6, []), (5, 1, [some 61]), (11, 6, []), (7, 4, [some 63, some 65, none, none]), (5, 1, [some 64]), (11, 6, []), (1, 3, [some 66, some 67, none]), (13, 5, [some 68, some 70, some 72, some 74, some 76]), (10, 5, []), (5, 1, [some 69]), (11, 6, []), (5, 1, [some 71]), (11, 6, []), (5, 1, [some 73]), (11, 6, []), (5, 1, [some 75]), (11, 6, []), (5, 1, [some 77]), (11, 6, []), (7, 4, [some 79, some 81, none, none]), (5, 1, [some 80]), (11, 6, []), (1, 3, [some 82, some 83, none]), (13, 5, [some 84, some 86, some 88, some 90, some 92]), (10, 5, []), (5, 1, [some 85]), (11, 6, []), (5, 1, [some 87]), (11, 6, []), (5, 1, [some 89]), (11, 6, []), (5, 1, [some 91]), (11, 6, []), (5, 1, [some 93]), (11, 6, []), (7, 4, [some 95, some 97, none, none]), (5, 1, [some 96]), (11, 6, []), (1, 3, [some 98, some 99, none]), (13, 5, [some 100, some 102, some 104, some 106, some 108]), (10, 5, []), (5, 1, [some 101]), (11, 6, []), (5, 1, [some 103]), (11, 6, []), (5, 1, [some 105]), (11, 6, []), (5, 1, [some 107]), (11, 6, []), (5, 1, [some 109]), (11, 6, []), (7, 4, [some 111, some 113, none, none]), (5, 1, [some 112]), (11, 6, []), (1, 3, [some 114, some 115, none]), (13, 5, [some 116, some 118, some 120, some 122, some 124]), (10, 5, []), (5, 1, [some 117]), (11, 6, []), (5, 1, [some 119]), (11, 6, []), (5, 1, [some 121]), (11, 6, []), (5, 1, [some 123]), (11, 6, []), (5, 1, [some 125]), (11, 6, []), (7, 4, [some 127, some 129, none, none]), (5, 1, [some 128]), (11, 6, []), (1, 3, [some 130, some 131, none]), (13, 5, [some 132, some 134, some 136, some 138, some 140]), (10, 5, []), (5, 1, [some 133]), (11, 6, []), (5, 1, [some 135]), (11, 6, []), (5, 1, [some 137]), (11, 6, []), (5, 1, [some 139]), (11, 6, []), (5, 1, [some 141]), (11, 6, []), (7, 4, [some 143, some 145, none, none]), (5, 1, [some 144]), (11, 6, []), (1, 3, [some 146, some 147, none]), (13, 5, [some 148, some 150, some 152, some 154, some 156]), (10, 5, []), (5, 1, [some 149]), (11, 6, []), (5, 1, [some 151]), (11, 6, []), (5, 1, [some 153]), (11, 6, []), (5, 1, [some 155]), (11, 6, []), (5, 1, [some 157]), (11, 6, []), (7, 4, [some 159, some 161, none, none]), (5, 1, [some 160]), (11, 6, []), (1, 3, [some 162, some 163, none]), (13, 5, [some 164, some 166, some 168, some 170, some 172]), (10, 5, []), (5, 1, [some 165]), (11, 6, []), (5, 1, [some 167]), (11, 6, []), (5, 1, [some 169]), (11, 6, []), (5, 1, [some 171]), (11, 6, []), (5, 1, [some 173]), (11, 6, [])]
def SHm : List mjD := [(9, 58, [none, none, some 175, some 176, some 177, none, some 178, some 179, some 180, none, some 181, none, none, none, some 182, none, some 183, some 184, none, none, some 185, some 186, some 187, some 188, none, some 189, none, some 190, some 191, some 192, some 193, some 194, none, none, none, some 195, none, some 196, none, none, some 197, some 198, some 199, some 200, none, none, none, none, none, none, none, some 201, some 202, some 203, some 204, some 205, some 206, none]), (10, 4, []), (11, 24, []), (10, 4, []), (10, 6, []), (10, 6, []), (10, 6, []), (12, 40, []), (11, 6, []), (11, 6, []), (11, 6, []), (11, 36, []), (10, 6, []), (10, 6, []), (11, 6, []), (11, 6, []), (11, 6, []), (11, 6, []), (11, 256, []), (11, 256, []), (11, 256, []), (11, 12, []), (10, 64, []), (11, 36, []), (10, 6, []), (10, 6, []), (10, 6, []), (10, 4, []), (10, 4, []), (11, 24, []), (10, 6, []), (10, 6, []), (10, 6, [])]
def SH : List mjD := SHd ++ SHm
def I00 : Nat → Nat → Int32 := mj_up (mj_up (mj_up (mj_up mj_Zi (174 + 3) 0 (-1)) (174 + 3) 1 (-1)) (174 + 3) 2 (-1)) (174 + 3) 3 (-1)
set_option maxRecDepth 100000 in
set_option maxHeartbeats 16000000 in
theorem wp_L_law {n : Nat} {xs : Nat → Int32} {RET : Option Value → mjH → Prop} (H0 : hd_L_law_18 n xs SH RET 0 174 (0 : Int32) I00 mj_Zl) : V (mr_L_law n xs) (600000, 7302250) RET 0 [(0, .ref 1000000)] [] ([], mj_Zi, mj_Zl) (0, 0) := by
  refine V.new (ci := 8) (b := 0) dL_law_0 rfl in_X8 tyX8_ok cl_L_7 inst_X8 ini_X8 (by decide) (by decide) (by decide) (by decide) rfl ?_
  refine V.hc (h2 := ([] ++ [(8, 15, [none, none, none, none, none, none, none, none, none, none, none, none, none, none, none])], mj_Zi, mj_Zl)) (mj_pushZ [] [] _) ?_
  refine V.dup dL_law_3 rfl ?_
  refine V.callI (N := mr_X8_init) (K1 := (173, 788)) (as := []) dL_law_4 ml_L_9 ok_X8_init okI_X8_init rfl rfl ⟨Nat.le_of_ble_eq_true rfl, Nat.le_of_ble_eq_true rfl⟩ rfl rfl (Nat.le_of_ble_eq_true rfl) ⟨by decide, by decide⟩ (ct_X8_init (S0 := []) (p := 0) rfl (by omega)) (fun v h q => ?_)
  obtain ⟨rfl, rfl⟩ := q
  refine V.hc (h2 := (SHd, mj_Zi, mj_Zl)) rfl ?_
  refine V.astore_n (lo' := [(1, .ref 0), (0, .ref 1000000)]) dL_law_7 rfl (Nat.le_of_ble_eq_true rfl) rfl ?_
  refine V.new (ci := 9) (b := 174) dL_law_8 rfl in_X9 tyX9_ok cl_L_10 inst_X9 ini_X9 (by decide) (by decide) (by decide) (by decide) rfl ?_
  refine V.hc (h2 := (SHd ++ [(9, 58, [none, none, none, none, none, none, none, none, none, none, none, none, none, none, none, none, none, none, none, none, none, none, none, none, none, none, none, none, none, none, none, none, none, none, none, none, none, none, none, none, none, none, none, none, none, none, none, none, none, none, none, none, none, none, none, none, none, none])], mj_Zi, mj_Zl)) (mj_pushZ SHd [] _) ?_
  refine V.dup dL_law_11 rfl ?_
  refine V.callI (N := mr_X9_init) (K1 := (32, 1128)) (as := []) dL_law_12 ml_L_12 ok_X9_init okI_X9_init rfl rfl ⟨Nat.le_of_ble_eq_true rfl, Nat.le_of_ble_eq_true rfl⟩ rfl rfl (Nat.le_of_ble_eq_true rfl) ⟨by decide, by decide⟩ (ct_X9_init (S0 := SHd) (p := 174) rfl (by omega)) (fun v h q => ?_)
  obtain ⟨rfl, rfl⟩ := q
  refine V.hc (h2 := (SH, I00, mj_Zl)) rfl ?_
  refine V.astore_n (lo' := [(2, .ref 174), (1, .ref 0), (0, .ref 1000000)]) dL_law_15 rfl (Nat.le_of_ble_eq_true rfl) rfl ?_
  refine V.iconst (v := 0) dL_law_16 (by decide) ?_
  refine V.istore_n (lo' := [(3, .int 0), (2, .ref 174), (1, .ref 0), (0, .ref 1000000)]) dL_law_17 rfl (Nat.le_of_ble_eq_true rfl) rfl ?_
  exact V.los [3, 2, 1, 0] rfl H0
theorem SH_fac_21 : is_Factors SH 21 := ⟨by decide +kernel, by decide +kernel, by decide +kernel, fun j hj => by
  have h5 : j = 0 ∨ j = 1 ∨ j = 2 ∨ j = 3 ∨ j = 4 := by omega
  rcases h5 with rfl | rfl | rfl | rfl | rfl <;> exact ⟨by decide +kernel, by decide +kernel⟩⟩
theorem SH_fac_49 : is_Factors SH 49 := ⟨by decide +kernel, by decide +kernel, by decide +kernel, fun j hj => by
  have h5 : j = 0 ∨ j = 1 ∨ j = 2 ∨ j = 3 ∨ j = 4 := by omega
  rcases h5 with rfl | rfl | rfl | rfl | rfl <;> exact ⟨by decide +kernel, by decide +kernel⟩⟩
theorem SH_fac_81 : is_Factors SH 81 := ⟨by decide +kernel, by decide +kernel, by decide +kernel, fun j hj => by
  have h5 : j = 0 ∨ j = 1 ∨ j = 2 ∨ j = 3 ∨ j = 4 := by omega
  rcases h5 with rfl | rfl | rfl | rfl | rfl <;> exact ⟨by decide +kernel, by decide +kernel⟩⟩
theorem SH_fac_113 : is_Factors SH 113 := ⟨by decide +kernel, by decide +kernel, by decide +kernel, fun j hj => by
  have h5 : j = 0 ∨ j = 1 ∨ j = 2 ∨ j = 3 ∨ j = 4 := by omega
  rcases h5 with rfl | rfl | rfl | rfl | rfl <;> exact ⟨by decide +kernel, by decide +kernel⟩⟩
theorem SH_fac_145 : is_Factors SH 145 := ⟨by decide +kernel, by decide +kernel, by decide +kernel, fun j hj => by
  have h5 : j = 0 ∨ j = 1 ∨ j = 2 ∨ j = 3 ∨ j = 4 := by omega
  rcases h5 with rfl | rfl | rfl | rfl | rfl <;> exact ⟨by decide +kernel, by decide +kernel⟩⟩
theorem SH_fac_65 : is_Factors SH 65 := ⟨by decide +kernel, by decide +kernel, by decide +kernel, fun j hj => by
  have h5 : j = 0 ∨ j = 1 ∨ j = 2 ∨ j = 3 ∨ j = 4 := by omega
  rcases h5 with rfl | rfl | rfl | rfl | rfl <;> exact ⟨by decide +kernel, by decide +kernel⟩⟩
theorem SH_fac_97 : is_Factors SH 97 := ⟨by decide +kernel, by decide +kernel, by decide +kernel, fun j hj => by
  have h5 : j = 0 ∨ j = 1 ∨ j = 2 ∨ j = 3 ∨ j = 4 := by omega
  rcases h5 with rfl | rfl | rfl | rfl | rfl <;> exact ⟨by decide +kernel, by decide +kernel⟩⟩
theorem SH_fac_129 : is_Factors SH 129 := ⟨by decide +kernel, by decide +kernel, by decide +kernel, fun j hj => by
  have h5 : j = 0 ∨ j = 1 ∨ j = 2 ∨ j = 3 ∨ j = 4 := by omega
  rcases h5 with rfl | rfl | rfl | rfl | rfl <;> exact ⟨by decide +kernel, by decide +kernel⟩⟩
theorem SH_fac_161 : is_Factors SH 161 := ⟨by decide +kernel, by decide +kernel, by decide +kernel, fun j hj => by
  have h5 : j = 0 ∨ j = 1 ∨ j = 2 ∨ j = 3 ∨ j = 4 := by omega
  rcases h5 with rfl | rfl | rfl | rfl | rfl <;> exact ⟨by decide +kernel, by decide +kernel⟩⟩
theorem SH_slot_46 : is_Slot SH 46 := ⟨by decide +kernel, ⟨by decide +kernel, by decide +kernel⟩, SH_fac_49⟩
theorem SH_slot_78 : is_Slot SH 78 := ⟨by decide +kernel, ⟨by decide +kernel, by decide +kernel⟩, SH_fac_81⟩
theorem SH_slot_110 : is_Slot SH 110 := ⟨by decide +kernel, ⟨by decide +kernel, by decide +kernel⟩, SH_fac_113⟩
theorem SH_slot_142 : is_Slot SH 142 := ⟨by decide +kernel, ⟨by decide +kernel, by decide +kernel⟩, SH_fac_145⟩
theorem SH_slot_62 : is_Slot SH 62 := ⟨by decide +kernel, ⟨by decide +kernel, by decide +kernel⟩, SH_fac_65⟩
theorem SH_slot_94 : is_Slot SH 94 := ⟨by decide +kernel, ⟨by decide +kernel, by decide +kernel⟩, SH_fac_97⟩
theorem SH_slot_126 : is_Slot SH 126 := ⟨by decide +kernel, ⟨by decide +kernel, by decide +kernel⟩, SH_fac_129⟩
theorem SH_slot_158 : is_Slot SH 158 := ⟨by decide +kernel, ⟨by decide +kernel, by decide +kernel⟩, SH_fac_161⟩
theorem SH_desk : is_Desk SH 0 := ⟨by decide +kernel, ⟨by decide +kernel, by decide +kernel⟩, ⟨by decide +kernel, by decide +kernel⟩, ⟨by decide +kernel, ⟨by decide +kernel, by decide +kernel⟩⟩, ⟨by decide +kernel, by decide +kernel⟩, ⟨by decide +kernel, by decide +kernel⟩, ⟨by decide +kernel, ⟨by decide +kernel, by decide +kernel⟩, ⟨by decide +kernel, by decide +kernel⟩, ⟨by decide +kernel, by decide +kernel⟩, by decide +kernel, by decide +kernel⟩, SH_fac_21, ⟨by decide +kernel, by decide +kernel, by decide +kernel, by decide +kernel⟩, by decide +kernel, ⟨by decide +kernel, by decide +kernel, by decide +kernel⟩, by decide +kernel, ⟨by decide +kernel, by decide +kernel, by decide +kernel⟩, fun j hj => by
  have h5 : j = 0 ∨ j = 1 ∨ j = 2 ∨ j = 3 := by omega
  rcases h5 with rfl | rfl | rfl | rfl
  · exact SH_slot_46
  · exact SH_slot_78
  · exact SH_slot_110
  · exact SH_slot_142, fun j hj => by
  have h5 : j = 0 ∨ j = 1 ∨ j = 2 ∨ j = 3 := by omega
  rcases h5 with rfl | rfl | rfl | rfl
  · exact SH_slot_62
  · exact SH_slot_94
  · exact SH_slot_126
  · exact SH_slot_158⟩
theorem SH_model : is_Model SH 174 := by
  unfold is_Model
  repeat' apply And.intro
  all_goals decide +kernel
