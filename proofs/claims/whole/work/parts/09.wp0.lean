/-! CONTRACTS in short, and what the shapes of the objects are -/
def CTi (N : mjM) (as : List Value) (S : List mjD) (I : Nat → Nat → Int32) (L : Nat → Nat → Int64) (r : Int32) (I1 : Nat → Nat → Int32) (L1 : Nat → Nat → Int64) : Prop := CT N (0, 0) as (S, I, L) (fun v h => v = some (.int r) ∧ h = (S, I1, L1))
def CTl (N : mjM) (as : List Value) (S : List mjD) (I : Nat → Nat → Int32) (L : Nat → Nat → Int64) (r : Int64) (I1 : Nat → Nat → Int32) (L1 : Nat → Nat → Int64) : Prop := CT N (0, 0) as (S, I, L) (fun v h => v = some (.long r) ∧ h = (S, I1, L1))
def CTv (N : mjM) (as : List Value) (S : List mjD) (I : Nat → Nat → Int32) (L : Nat → Nat → Int64) (I1 : Nat → Nat → Int32) (L1 : Nat → Nat → Int64) : Prop := CT N (0, 0) as (S, I, L) (fun v h => v = none ∧ h = (S, I1, L1))
def CTq (N : mjM) (as : List Value) (S : List mjD) (I : Nat → Nat → Int32) (L : Nat → Nat → Int64) (r : Option Nat) (I1 : Nat → Nat → Int32) (L1 : Nat → Nat → Int64) : Prop := CT N (0, 0) as (S, I, L) (fun v h => v = some (mj_rf r) ∧ h = (S, I1, L1))
theorem Met.ofWF {l : Launch} {y : MethodName} {ws ws' : List Cond} {rm : Room} {Pc : Array Value → State → Prop} {Qc : Array Value → State → Outcome → State → Prop} {mc ms : Nat} {free : Addr → Prop} {cc : ByteArray} {maxL : Nat} {ret : Option FieldType}
    (hy : plainFor y = true) (hw : ws = Cond.code y cc maxL ret :: ws')
    (body : ∀ p e s m args below meth c s₁, BodyLoose p l y (headSpec ws rm) cc maxL ret e s m args below meth c s₁ → c.maxLocals = maxL → Pc args s →
      W p l e (headSpec ws rm).room s m args below meth c s.heap [] 0 0 (MQ below Qc args s mc ms free) (entryFrame m args maxL)) : Met l y ws rm Pc Qc mc ms free := by
  refine MetFree.of_bodySF (code := cc) (maxLocals := maxL) (ret := ret) hy ?_ ?_
  · intro args s m h hn
    obtain ⟨meth, c, h1, h2, h3, h4, h5, h6, -, -⟩ := Cond.code_spec hn (atoms_spec (ws := ws) h _ (by rw [hw]; exact List.mem_cons_self))
    exact ⟨meth, c, h1, h2, h3, h4, h5, h6⟩
  · intro p e s m args below meth c s₁ B hml hP _
    have hh0 : s₁.heap = s.heap := by rw [B.state]; rfl
    obtain ⟨t, a1, o, b1, b2, b3⟩ := body p e s m args below meth c s₁ B hml hP s₁ hh0 (Stand.of_body B)
    exact ⟨t, o, a1, b1, b2, ⟨b3.1, b3.2⟩⟩
theorem CT.ofF {M : mjM} {K : Nat × Nat} {as : List Value} {h : mjH} {RET : Option Value → mjH → Prop} {lo : List (Nat × Value)} (hy : plainFor (mj_y M) = true) (hn : ∀ (A0 : Nat) (sa : Nat → Nat), (lg_sl (as.map (mj_v A0 sa))).length ≤ mj_n M) (hlo : ∀ (A0 : Nat) (sa : Nat → Nat), lv_args 0 (as.map (mj_v A0 sa)) = mj_lo A0 sa lo)
    (hx : mj_x M = none) (kk : V M K RET 0 lo [] h (0, 0)) : CT M K as h RET := by
  intro D ca A0 sa l
  refine Met.ofWF (cc := mj_b M) (maxL := mj_n M) (ret := mj_r M) hy rfl ?_
  intro p e s m args below meth c s₁ B hml hv
  obtain ⟨rfl, hR, hX⟩ := hv
  have hts := atoms_spec (ws := mj_ws M) B.pre
  have hlocks := B.notSynchronized
  have hl := lv_entry (as.map (mj_v A0 sa)) (n := mj_n M) (hn A0 sa)
  rw [hlo A0 sa] at hl
  rw [lg_entry_eq]
  refine kk D ca A0 sa p l e s m _ below meth c _ ⟨B.exec, B.bytes, hml, B.returns, findClass_of_methodNamed B.named, fun w hw => hts w (List.mem_cons_of_mem _ hw), hlocks, hX, mj_init_name B.named B.method, fun q hq => by rw [hx] at hq; cases hq⟩ ?_ s.heap [] _ hR va_S.rf hl
  intro pc' ls' v h' H' locs' hE hT hR' hS'
  have fin : ∀ t : State, t.heap = H' → mj_Qc D ca A0 sa RET (as.map (mj_v A0 sa)).toArray s (.returned (v.map (mj_v A0 sa))) t := fun t ht => ⟨⟨v, h', rfl, hT, by rw [ht]; exact hR'⟩, hS'.F ht⟩
  rcases hE with ⟨x, rfl, hd, ty, hr, hnw⟩ | ⟨x, rfl, hd, hr⟩ | ⟨hv, hd, n, hr⟩ | ⟨rfl, hd, hr⟩
  · exact W.zret B.exec B.bytes (B.returns.trans hr) hnw (fun t ht _ => fin t ht) hS'.2.2 hd hlocks
  · exact W.lret B.exec B.bytes (B.returns.trans hr) (fun t ht _ => fin t ht) hS'.2.2 hd hlocks
  · rcases hv with rfl | ⟨a, rfl⟩
    · exact W.aret B.exec B.bytes (B.returns.trans hr) (Or.inl ⟨n, rfl⟩) (Or.inl rfl) (fun t ht _ => fin t ht) hS'.2.2 hd hlocks
    · exact W.aret B.exec B.bytes (B.returns.trans hr) (Or.inl ⟨n, rfl⟩) (Or.inr ⟨mj_ad A0 sa a, rfl⟩) (fun t ht _ => fin t ht) hS'.2.2 hd hlocks
  · exact W.vret B.exec B.bytes (B.returns.trans hr) (fun t ht _ => fin t ht) hS'.2.2 hd hlocks
theorem mj_zn {x : Int32} (h : x = 0 ∨ x = 1) : narrow .boolean (.int x) = .int x := by rcases h with rfl | rfl <;> decide
theorem mj_zf {x : Int32} (h : x = 0 ∨ x = 1) : fits .boolean (.int x) = true := by rcases h with rfl | rfl <;> decide
theorem mj_lit {i : Int32} {n : Nat} (h : (¬ i < 0) ∧ i.toNatClampNeg < n) : vp_in i n := fun q => q.elim h.1 (fun z => Nat.not_le.mpr h.2 z)
theorem mj_lt {i : Int32} {n : Nat} (h : vp_in i n) : i.toNatClampNeg < n := Nat.not_le.mp fun q => h (Or.inr q)
theorem mj_gp {i : Int32} {n b c : Nat} (h : vp_in i n) : mj_rf (((List.range n).map (fun j => some (b + c * j))).getD i.toNatClampNeg none) = .ref (b + c * i.toNatClampNeg) := by
  rw [List.getD_eq_getElem?_getD, List.getElem?_map, List.getElem?_range (mj_lt h)]
  rfl
theorem pf_J9_abs_067f4 : plainFor (mj_y mr_J9_abs_067f4) = true := by decide +kernel
theorem pf_J9_floorMod_f86c9 : plainFor (mj_y mr_J9_floorMod_f86c9) = true := by decide +kernel
theorem pf_J9_max_7cf53 : plainFor (mj_y mr_J9_max_7cf53) = true := by decide +kernel
theorem pf_J9_min_7cf53 : plainFor (mj_y mr_J9_min_7cf53) = true := by decide +kernel
theorem V.topi {K k : Nat × Nat} {h : mjH} {M : mjM} {RET : Option Value → mjH → Prop} {pc : Nat} {lo : List (Nat × Value)} {st : List Value} {x : Int32} (kk : ∀ y : Int32, y = x → V M K RET pc lo (.int y :: st) h k) : V M K RET pc lo (.int x :: st) h k := kk x rfl
theorem V.topl {K k : Nat × Nat} {h : mjH} {M : mjM} {RET : Option Value → mjH → Prop} {pc : Nat} {lo : List (Nat × Value)} {st : List Value} {x : Int64} (kk : ∀ y : Int64, y = x → V M K RET pc lo (.long y :: st) h k) : V M K RET pc lo (.long x :: st) h k := kk x rfl
theorem V.los {K k : Nat × Nat} {h : mjH} {M : mjM} {RET : Option Value → mjH → Prop} {pc : Nat} {lo : List (Nat × Value)} {st : List Value} {lo' : List (Nat × Value)} (ks : List Nat) (he : ks.filterMap (fun i => lo[i]?) = lo') (kk : V M K RET pc lo' st h k) : V M K RET pc lo st h k := by
  refine V.lo (fun q hq => ?_) kk
  rw [← he] at hq
  obtain ⟨i, -, hi⟩ := List.mem_filterMap.mp hq
  exact List.mem_of_getElem? hi
theorem V.cVi {M : mjM} {RET : Option Value → mjH → Prop} {pc : Nat} {lo : List (Nat × Value)} {st : List Value} {S : List mjD} {I : Nat → Nat → Int32} {L : Nat → Nat → Int64} {N : mjM} {idx a : Nat} {d : mjD} {as : List Value} {st0 : List Value} {r : Int32} {I1 : Nat → Nat → Int32} {L1 : Nat → Nat → Int64} (hd : decode (mj_b M) pc = .ok (.invokevirtual idx, 3)) (hln : Cond.methodLink (mj_y M).cls idx (mj_y N) ∈ mj_W) (hN : mj_ok N) (hV : mj_okV N) (hf : mj_f N + 1 ≤ mj_f M ∧ 8 + (mj_n N + 11) + mj_l N ≤ mj_l M) (hs : S[a]? = some d) (hcl : (vwCl[d.1]?).map (fun q => q.1) = some (mj_y N).cls) (hst : st0 = as.reverse ++ .ref a :: st) (hlen : as.length = mj_p N) (hcat : (st.map Value.category).sum ≤ 8) (hc : CTi N (.ref a :: as) S I L r I1 L1) (kk : V M (0, 0) RET (pc + 3) lo (.int r :: st) (S, I1, L1) (0, 0)) : V M (0, 0) RET pc lo st0 (S, I, L) (0, 0) := by
  refine V.callV (K1 := (0, 0)) hd hln hN hV hf hs hcl hst hlen hcat ⟨Nat.le_refl _, Nat.le_refl _⟩ hc (fun v h' q => ?_)
  obtain ⟨rfl, rfl⟩ := q
  exact kk
theorem V.cSi {M : mjM} {RET : Option Value → mjH → Prop} {pc : Nat} {lo : List (Nat × Value)} {st : List Value} {S : List mjD} {I : Nat → Nat → Int32} {L : Nat → Nat → Int64} {N : mjM} {idx : Nat} {as : List Value} {st0 : List Value} {r : Int32} {I1 : Nat → Nat → Int32} {L1 : Nat → Nat → Int64} (hd : decode (mj_b M) pc = .ok (.invokestatic idx, 3)) (hln : Cond.methodLink (mj_y M).cls idx (mj_y N) ∈ mj_W) (hN : mj_ok N) (hV : Cond.static (mj_y N) ∈ mj_W) (hf : mj_f N + 1 ≤ mj_f M ∧ 8 + (mj_n N + 11) + mj_l N ≤ mj_l M) (hst : st0 = as.reverse ++ st) (hlen : as.length = mj_p N) (hcat : (st.map Value.category).sum ≤ 8) (hc : CTi N as S I L r I1 L1) (kk : V M (0, 0) RET (pc + 3) lo (.int r :: st) (S, I1, L1) (0, 0)) : V M (0, 0) RET pc lo st0 (S, I, L) (0, 0) := by
  refine V.callS (K1 := (0, 0)) hd hln hN hV hf hst hlen hcat ⟨Nat.le_refl _, Nat.le_refl _⟩ hc (fun v h' q => ?_)
  obtain ⟨rfl, rfl⟩ := q
  exact kk
theorem V.cVl {M : mjM} {RET : Option Value → mjH → Prop} {pc : Nat} {lo : List (Nat × Value)} {st : List Value} {S : List mjD} {I : Nat → Nat → Int32} {L : Nat → Nat → Int64} {N : mjM} {idx a : Nat} {d : mjD} {as : List Value} {st0 : List Value} {r : Int64} {I1 : Nat → Nat → Int32} {L1 : Nat → Nat → Int64} (hd : decode (mj_b M) pc = .ok (.invokevirtual idx, 3)) (hln : Cond.methodLink (mj_y M).cls idx (mj_y N) ∈ mj_W) (hN : mj_ok N) (hV : mj_okV N) (hf : mj_f N + 1 ≤ mj_f M ∧ 8 + (mj_n N + 11) + mj_l N ≤ mj_l M) (hs : S[a]? = some d) (hcl : (vwCl[d.1]?).map (fun q => q.1) = some (mj_y N).cls) (hst : st0 = as.reverse ++ .ref a :: st) (hlen : as.length = mj_p N) (hcat : (st.map Value.category).sum ≤ 8) (hc : CTl N (.ref a :: as) S I L r I1 L1) (kk : V M (0, 0) RET (pc + 3) lo (.long r :: st) (S, I1, L1) (0, 0)) : V M (0, 0) RET pc lo st0 (S, I, L) (0, 0) := by
  refine V.callV (K1 := (0, 0)) hd hln hN hV hf hs hcl hst hlen hcat ⟨Nat.le_refl _, Nat.le_refl _⟩ hc (fun v h' q => ?_)
  obtain ⟨rfl, rfl⟩ := q
  exact kk
theorem V.cSl {M : mjM} {RET : Option Value → mjH → Prop} {pc : Nat} {lo : List (Nat × Value)} {st : List Value} {S : List mjD} {I : Nat → Nat → Int32} {L : Nat → Nat → Int64} {N : mjM} {idx : Nat} {as : List Value} {st0 : List Value} {r : Int64} {I1 : Nat → Nat → Int32} {L1 : Nat → Nat → Int64} (hd : decode (mj_b M) pc = .ok (.invokestatic idx, 3)) (hln : Cond.methodLink (mj_y M).cls idx (mj_y N) ∈ mj_W) (hN : mj_ok N) (hV : Cond.static (mj_y N) ∈ mj_W) (hf : mj_f N + 1 ≤ mj_f M ∧ 8 + (mj_n N + 11) + mj_l N ≤ mj_l M) (hst : st0 = as.reverse ++ st) (hlen : as.length = mj_p N) (hcat : (st.map Value.category).sum ≤ 8) (hc : CTl N as S I L r I1 L1) (kk : V M (0, 0) RET (pc + 3) lo (.long r :: st) (S, I1, L1) (0, 0)) : V M (0, 0) RET pc lo st0 (S, I, L) (0, 0) := by
  refine V.callS (K1 := (0, 0)) hd hln hN hV hf hst hlen hcat ⟨Nat.le_refl _, Nat.le_refl _⟩ hc (fun v h' q => ?_)
  obtain ⟨rfl, rfl⟩ := q
  exact kk
theorem V.cVv {M : mjM} {RET : Option Value → mjH → Prop} {pc : Nat} {lo : List (Nat × Value)} {st : List Value} {S : List mjD} {I : Nat → Nat → Int32} {L : Nat → Nat → Int64} {N : mjM} {idx a : Nat} {d : mjD} {as : List Value} {st0 : List Value}  {I1 : Nat → Nat → Int32} {L1 : Nat → Nat → Int64} (hd : decode (mj_b M) pc = .ok (.invokevirtual idx, 3)) (hln : Cond.methodLink (mj_y M).cls idx (mj_y N) ∈ mj_W) (hN : mj_ok N) (hV : mj_okV N) (hf : mj_f N + 1 ≤ mj_f M ∧ 8 + (mj_n N + 11) + mj_l N ≤ mj_l M) (hs : S[a]? = some d) (hcl : (vwCl[d.1]?).map (fun q => q.1) = some (mj_y N).cls) (hst : st0 = as.reverse ++ .ref a :: st) (hlen : as.length = mj_p N) (hcat : (st.map Value.category).sum ≤ 8) (hc : CTv N (.ref a :: as) S I L I1 L1) (kk : V M (0, 0) RET (pc + 3) lo st (S, I1, L1) (0, 0)) : V M (0, 0) RET pc lo st0 (S, I, L) (0, 0) := by
  refine V.callV (K1 := (0, 0)) hd hln hN hV hf hs hcl hst hlen hcat ⟨Nat.le_refl _, Nat.le_refl _⟩ hc (fun v h' q => ?_)
  obtain ⟨rfl, rfl⟩ := q
  exact kk
theorem V.cSv {M : mjM} {RET : Option Value → mjH → Prop} {pc : Nat} {lo : List (Nat × Value)} {st : List Value} {S : List mjD} {I : Nat → Nat → Int32} {L : Nat → Nat → Int64} {N : mjM} {idx : Nat} {as : List Value} {st0 : List Value}  {I1 : Nat → Nat → Int32} {L1 : Nat → Nat → Int64} (hd : decode (mj_b M) pc = .ok (.invokestatic idx, 3)) (hln : Cond.methodLink (mj_y M).cls idx (mj_y N) ∈ mj_W) (hN : mj_ok N) (hV : Cond.static (mj_y N) ∈ mj_W) (hf : mj_f N + 1 ≤ mj_f M ∧ 8 + (mj_n N + 11) + mj_l N ≤ mj_l M) (hst : st0 = as.reverse ++ st) (hlen : as.length = mj_p N) (hcat : (st.map Value.category).sum ≤ 8) (hc : CTv N as S I L I1 L1) (kk : V M (0, 0) RET (pc + 3) lo st (S, I1, L1) (0, 0)) : V M (0, 0) RET pc lo st0 (S, I, L) (0, 0) := by
  refine V.callS (K1 := (0, 0)) hd hln hN hV hf hst hlen hcat ⟨Nat.le_refl _, Nat.le_refl _⟩ hc (fun v h' q => ?_)
  obtain ⟨rfl, rfl⟩ := q
  exact kk
theorem V.cVq {M : mjM} {RET : Option Value → mjH → Prop} {pc : Nat} {lo : List (Nat × Value)} {st : List Value} {S : List mjD} {I : Nat → Nat → Int32} {L : Nat → Nat → Int64} {N : mjM} {idx a : Nat} {d : mjD} {as : List Value} {st0 : List Value} {r : Option Nat} {I1 : Nat → Nat → Int32} {L1 : Nat → Nat → Int64} (hd : decode (mj_b M) pc = .ok (.invokevirtual idx, 3)) (hln : Cond.methodLink (mj_y M).cls idx (mj_y N) ∈ mj_W) (hN : mj_ok N) (hV : mj_okV N) (hf : mj_f N + 1 ≤ mj_f M ∧ 8 + (mj_n N + 11) + mj_l N ≤ mj_l M) (hs : S[a]? = some d) (hcl : (vwCl[d.1]?).map (fun q => q.1) = some (mj_y N).cls) (hst : st0 = as.reverse ++ .ref a :: st) (hlen : as.length = mj_p N) (hcat : (st.map Value.category).sum ≤ 8) (hc : CTq N (.ref a :: as) S I L r I1 L1) (kk : V M (0, 0) RET (pc + 3) lo (mj_rf r :: st) (S, I1, L1) (0, 0)) : V M (0, 0) RET pc lo st0 (S, I, L) (0, 0) := by
  refine V.callV (K1 := (0, 0)) hd hln hN hV hf hs hcl hst hlen hcat ⟨Nat.le_refl _, Nat.le_refl _⟩ hc (fun v h' q => ?_)
  obtain ⟨rfl, rfl⟩ := q
  exact kk
theorem V.cSq {M : mjM} {RET : Option Value → mjH → Prop} {pc : Nat} {lo : List (Nat × Value)} {st : List Value} {S : List mjD} {I : Nat → Nat → Int32} {L : Nat → Nat → Int64} {N : mjM} {idx : Nat} {as : List Value} {st0 : List Value} {r : Option Nat} {I1 : Nat → Nat → Int32} {L1 : Nat → Nat → Int64} (hd : decode (mj_b M) pc = .ok (.invokestatic idx, 3)) (hln : Cond.methodLink (mj_y M).cls idx (mj_y N) ∈ mj_W) (hN : mj_ok N) (hV : Cond.static (mj_y N) ∈ mj_W) (hf : mj_f N + 1 ≤ mj_f M ∧ 8 + (mj_n N + 11) + mj_l N ≤ mj_l M) (hst : st0 = as.reverse ++ st) (hlen : as.length = mj_p N) (hcat : (st.map Value.category).sum ≤ 8) (hc : CTq N as S I L r I1 L1) (kk : V M (0, 0) RET (pc + 3) lo (mj_rf r :: st) (S, I1, L1) (0, 0)) : V M (0, 0) RET pc lo st0 (S, I, L) (0, 0) := by
  refine V.callS (K1 := (0, 0)) hd hln hN hV hf hst hlen hcat ⟨Nat.le_refl _, Nat.le_refl _⟩ hc (fun v h' q => ?_)
  obtain ⟨rfl, rfl⟩ := q
  exact kk
theorem V.ldc_w {K k : Nat × Nat} {h : mjH} {M : mjM} {RET : Option Value → mjH → Prop} {pc : Nat} {lo : List (Nat × Value)} {st : List Value} {i : Nat} {v : Int32} (hw : Jvm.Cond.constant (mj_y M).cls i v ∈ mj_W) (hd : decode (mj_b M) pc = .ok (.ldc_w i, 3)) (kk : V M K RET (pc + 3) lo (.int v :: st) h k) : V M K RET pc lo st h k := by
  intro D ca A0 sa p l e s m args below meth c Q C hQ H locs ls hR hS hl
  exact lv_ldcw C.1 C.2.1 C.2.2.2.2.1 (C.2.2.2.2.2.1 _ hw) hd (kk D ca A0 sa p l e s m args below meth c Q C hQ H locs ls hR hS hl)
def is_Poly (S : List mjD) (p : Nat) : Prop := S[p]? = some (5, 1, [some (p + 1)]) ∧ S[p + 1]? = some (11, 6, [])
def is_Line (S : List mjD) (p : Nat) : Prop := S[p]? = some (2, 2, [some (p + 1), none]) ∧ S[p + 1]? = some (10, 40, [])
def is_Notes (S : List mjD) (p : Nat) : Prop := S[p]? = some (3, 3, [some (p + 1), some (p + 2), none]) ∧ S[p + 1]? = some (10, 6, []) ∧ S[p + 2]? = some (10, 6, [])
def is_Parts (S : List mjD) (p : Nat) : Prop := S[p]? = some (4, 5, [some (p + 1), some (p + 2), some (p + 3), none, none]) ∧ S[p + 1]? = some (11, 8, []) ∧ S[p + 2]? = some (11, 8, []) ∧ S[p + 3]? = some (10, 6, [])
def is_Reader (S : List mjD) (p : Nat) : Prop := S[p]? = some (6, 6, [some (p + 1), none, none, none, none, none]) ∧ is_Poly S (p + 1)
def is_Factors (S : List mjD) (p : Nat) : Prop := S[p]? = some (1, 3, [some (p + 1), some (p + 2), none]) ∧ S[p + 1]? = some (13, 5, (List.range 5).map (fun j => some ((p + 1) + 2 + 2 * j))) ∧ S[p + 2]? = some (10, 5, []) ∧ ∀ j, j < 5 → is_Poly S (p + 1 + 2 + 2 * j)
def is_Factoring (S : List mjD) (p : Nat) : Prop := S[p]? = some (0, 7, [some (p + 1), some (p + 3), some (p + 5), some (p + 7), some (p + 8), none, none]) ∧ is_Poly S (p + 1) ∧ is_Poly S (p + 3) ∧ is_Poly S (p + 5) ∧ S[p + 7]? = some (10, 32, []) ∧ S[p + 8]? = some (10, 32, [])
def is_Slot (S : List mjD) (p : Nat) : Prop := S[p]? = some (7, 4, [some (p + 1), some (p + 3), none, none]) ∧ is_Poly S (p + 1) ∧ is_Factors S (p + 3)
def is_Desk (S : List mjD) (d : Nat) : Prop := S[d]? = some (8, 15, [some (d + 1), some (d + 3), some (d + 5), some (d + 8), some (d + 10), some (d + 12), some (d + 21), some (d + 34), some (d + 38), some (d + 39), none, none, some (d + 42), some (d + 43), none]) ∧ is_Line S (d + 1) ∧ is_Line S (d + 3) ∧ is_Reader S (d + 5) ∧ is_Poly S (d + 8) ∧ is_Poly S (d + 10) ∧ is_Factoring S (d + 12) ∧ is_Factors S (d + 21) ∧ is_Parts S (d + 34) ∧ S[d + 38]? = some (14, 4, (List.range 4).map (fun j => some (d + 46 + 32 * j))) ∧ is_Notes S (d + 39) ∧ S[d + 42]? = some (14, 4, (List.range 4).map (fun j => some (d + 62 + 32 * j))) ∧ is_Notes S (d + 43) ∧ (∀ j, j < 4 → is_Slot S (d + 46 + 32 * j)) ∧ ∀ j, j < 4 → is_Slot S (d + 62 + 32 * j)
def is_Model (S : List mjD) (p : Nat) : Prop := S[p]? = some (9, 58, [none, none, some (p + 1), some (p + 2), some (p + 3), none, some (p + 4), some (p + 5), some (p + 6), none, some (p + 7), none, none, none, some (p + 8), none, some (p + 9), some (p + 10), none, none, some (p + 11), some (p + 12), some (p + 13), some (p + 14), none, some (p + 15), none, some (p + 16), some (p + 17), some (p + 18), some (p + 19), some (p + 20), none, none, none, some (p + 21), none, some (p + 22), none, none, some (p + 23), some (p + 24), some (p + 25), some (p + 26), none, none, none, none, none, none, none, some (p + 27), some (p + 28), some (p + 29), some (p + 30), some (p + 31), some (p + 32), none]) ∧ S[p + 1]? = some (10, 4, []) ∧ S[p + 2]? = some (11, 24, []) ∧ S[p + 3]? = some (10, 4, []) ∧ S[p + 4]? = some (10, 6, []) ∧ S[p + 5]? = some (10, 6, []) ∧ S[p + 6]? = some (10, 6, []) ∧ S[p + 7]? = some (12, 40, []) ∧ S[p + 8]? = some (11, 6, []) ∧ S[p + 9]? = some (11, 6, []) ∧ S[p + 10]? = some (11, 6, []) ∧ S[p + 11]? = some (11, 36, []) ∧ S[p + 12]? = some (10, 6, []) ∧ S[p + 13]? = some (10, 6, []) ∧ S[p + 14]? = some (11, 6, []) ∧ S[p + 15]? = some (11, 6, []) ∧ S[p + 16]? = some (11, 6, []) ∧ S[p + 17]? = some (11, 6, []) ∧ S[p + 18]? = some (11, 256, []) ∧ S[p + 19]? = some (11, 256, []) ∧ S[p + 20]? = some (11, 256, []) ∧ S[p + 21]? = some (11, 12, []) ∧ S[p + 22]? = some (10, 64, []) ∧ S[p + 23]? = some (11, 36, []) ∧ S[p + 24]? = some (10, 6, []) ∧ S[p + 25]? = some (10, 6, []) ∧ S[p + 26]? = some (10, 6, []) ∧ S[p + 27]? = some (10, 4, []) ∧ S[p + 28]? = some (10, 4, []) ∧ S[p + 29]? = some (11, 24, []) ∧ S[p + 30]? = some (10, 6, []) ∧ S[p + 31]? = some (10, 6, []) ∧ S[p + 32]? = some (10, 6, [])
theorem mj_sw_0_2 (x : Int32) : x = 0 ∨ x = 1 ∨ x = 2 ∨ (x.toInt < 0 ∨ 2 < x.toInt) := by
  simp only [← Int32.toInt_inj]
  have e : ∀ k : Nat, k < 128 → (OfNat.ofNat k : Int32).toInt = k := by decide
  simp only [e 0 (by decide), e 1 (by decide), e 2 (by decide)]
  omega
theorem mj_sw_0_7 (x : Int32) : x = 0 ∨ x = 1 ∨ x = 2 ∨ x = 3 ∨ x = 4 ∨ x = 5 ∨ x = 6 ∨ x = 7 ∨ (x.toInt < 0 ∨ 7 < x.toInt) := by
  simp only [← Int32.toInt_inj]
  have e : ∀ k : Nat, k < 128 → (OfNat.ofNat k : Int32).toInt = k := by decide
  simp only [e 0 (by decide), e 1 (by decide), e 2 (by decide), e 3 (by decide), e 4 (by decide), e 5 (by decide), e 6 (by decide), e 7 (by decide)]
  omega
theorem mj_sw_1_4 (x : Int32) : x = 1 ∨ x = 2 ∨ x = 3 ∨ x = 4 ∨ (x.toInt < 1 ∨ 4 < x.toInt) := by
  simp only [← Int32.toInt_inj]
  have e : ∀ k : Nat, k < 128 → (OfNat.ofNat k : Int32).toInt = k := by decide
  simp only [e 1 (by decide), e 2 (by decide), e 3 (by decide), e 4 (by decide)]
  omega
theorem mj_sw_102_116 (x : Int32) : x = 102 ∨ x = 103 ∨ x = 104 ∨ x = 105 ∨ x = 106 ∨ x = 107 ∨ x = 108 ∨ x = 109 ∨ x = 110 ∨ x = 111 ∨ x = 112 ∨ x = 113 ∨ x = 114 ∨ x = 115 ∨ x = 116 ∨ (x.toInt < 102 ∨ 116 < x.toInt) := by
  simp only [← Int32.toInt_inj]
  have e : ∀ k : Nat, k < 128 → (OfNat.ofNat k : Int32).toInt = k := by decide
  simp only [e 102 (by decide), e 103 (by decide), e 104 (by decide), e 105 (by decide), e 106 (by decide), e 107 (by decide), e 108 (by decide), e 109 (by decide), e 110 (by decide), e 111 (by decide), e 112 (by decide), e 113 (by decide), e 114 (by decide), e 115 (by decide), e 116 (by decide)]
  omega
