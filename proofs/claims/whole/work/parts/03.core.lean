/-! THE SMALL MACHINE: a heap of shapes and numbers; V: from here the method goes on to its end; CT: a method's contract -/
abbrev mjD : Type := Nat × Nat × List (Option Nat)
abbrev mjH : Type := List mjD × (Nat → Nat → Int32) × (Nat → Nat → Int64)
abbrev mjM : Type := MethodName × ByteArray × Nat × Option FieldType × Nat × Nat × Nat × Option (Nat × (Nat → Int32))
def mj_y (M : mjM) : MethodName := M.1
def mj_b (M : mjM) : ByteArray := M.2.1
def mj_n (M : mjM) : Nat := M.2.2.1
def mj_r (M : mjM) : Option FieldType := M.2.2.2.1
def mj_f (M : mjM) : Nat := M.2.2.2.2.1
def mj_l (M : mjM) : Nat := M.2.2.2.2.2.1
def mj_p (M : mjM) : Nat := M.2.2.2.2.2.2.1
/-- the script, where a method has one -/
def mj_x (M : mjM) : Option (Nat × (Nat → Int32)) := M.2.2.2.2.2.2.2
def mj_W : List Cond := lw_tbl.filter goodWord
def mj_ws (M : mjM) : List Cond := .code (mj_y M) (mj_b M) (mj_n M) (mj_r M) :: mj_W
def mj_NWf : List (String × Nat × String × String × String) := [("PolyDesk$Reader", 32, "PolyDesk$Line", "length", "I"), ("PolyDesk", 81, "PolyDesk$Line", "length", "I"), ("PolyDesk$Poly", 53, "PolyDesk$Line", "length", "I"), ("PolyDesk", 124, "PolyDesk$Reader", "result", "LPolyDesk$Poly;"), ("PolyDesk$Factoring", 31, "PolyDesk$Factors", "size", "I"), ("PolyDesk", 152, "PolyDesk$Factors", "size", "I"), ("PolyDesk", 109, "PolyDesk$Notes", "size", "I"), ("PolyDesk", 135, "PolyDesk$Slot", "held", "LPolyDesk$Poly;"), ("PolyDesk", 149, "PolyDesk$Slot", "factors", "LPolyDesk$Factors;"), ("PolyDesk", 96, "PolyDesk$Slot", "kind", "I"), ("PolyDesk", 99, "PolyDesk$Slot", "filled", "Z"), ("PolyDesk", 256, "PolyDesk$Notes", "HAPPENS_WITH", "[I")]
def mj_NWm : List (String × Nat × String) := [("PolyDesk", 9, "PolyDesk$Line"), ("PolyDesk", 21, "PolyDesk$Reader"), ("PolyDesk$Reader", 11, "PolyDesk$Poly"), ("PolyDesk", 28, "PolyDesk$Poly"), ("PolyDesk", 38, "PolyDesk$Factoring"), ("PolyDesk$Factoring", 11, "PolyDesk$Poly"), ("PolyDesk$Factors", 21, "PolyDesk$Poly"), ("PolyDesk", 52, "PolyDesk$Parts"), ("PolyDesk", 65, "PolyDesk$Notes"), ("PolyDesk", 76, "PolyDesk$Slot"), ("PolyDesk$Slot", 9, "PolyDesk$Poly")]
def mj_nf (q : String × Nat × String × String × String) : Cond := .fieldLinkNest q.1 q.2.1 q.2.2.1 q.2.2.2.1 q.2.2.2.2 "PolyDesk"
def mj_nm (q : String × Nat × String) : Cond := .methodLinkNest q.1 q.2.1 ⟨q.2.2, "<init>", "()V"⟩ "PolyDesk"
def mj_NW (U : State) : Prop := (∀ q ∈ mj_NWf, va_Nw (mj_nf q) U) ∧ ∀ q ∈ mj_NWm, va_Nw (mj_nm q) U
/-- the kinds of the fields: 0 int, 1 long, 2 a reference, 3 boolean -/
def mj_kinds : List (List Nat) := [[2, 2, 2, 2, 2, 0, 0], [2, 2, 0], [2, 0], [2, 2, 0], [2, 2, 2, 0, 0], [2], [2, 0, 0, 0, 0, 0], [2, 2, 0, 3], [2, 2, 2, 2, 2, 2, 2, 2, 2, 2, 0, 0, 2, 2, 0], [0, 0, 2, 2, 2, 0, 2, 2, 2, 0, 2, 3, 3, 0, 2, 3, 2, 2, 1, 0, 2, 2, 2, 2, 0, 2, 0, 2, 2, 2, 2, 2, 0, 0, 0, 2, 0, 2, 0, 1, 2, 2, 2, 2, 0, 0, 0, 1, 3, 0, 0, 2, 2, 2, 2, 2, 2, 1]]
def mj_kind (c k : Nat) : Nat := (mj_kinds.getD c []).getD k 2
def mj_ad (A0 : Nat) (sa : Nat → Nat) (a : Nat) : Nat := if a < 1000000 then A0 + a else sa a
def mj_v (A0 : Nat) (sa : Nat → Nat) (v : Value) : Value := match v with
  | .ref a => .ref (mj_ad A0 sa a)
  | w => w
def mj_lo (A0 : Nat) (sa : Nat → Nat) (lo : List (Nat × Value)) : List (Nat × Value) := lo.map (fun q => (q.1, mj_v A0 sa q.2))
def mj_rf (r : Option Nat) : Value := match r with
  | none => .null
  | some a => .ref a
/-- what a field holds -/
def mj_av (d : mjD) (Ia : Nat → Int32) (La : Nat → Int64) (k : Nat) : Value := match mj_kind d.1 k with
  | 0 => .int (Ia k)
  | 1 => .long (La k)
  | 3 => .int (Ia k)
  | _ => mj_rf (d.2.2.getD k none)
def mj_qf (A0 : Nat) (sa : Nat → Nat) (rs : List (Option Nat)) : Nat → Option Nat := fun k => (rs.getD k none).map (mj_ad A0 sa)
def mj_e (ca : Nat → ClassId) (A0 : Nat) (sa : Nat → Nat) (d : mjD) (Ia : Nat → Int32) (La : Nat → Int64) : va_E :=
  if d.1 < 10 then .inr (d.1, (List.range d.2.1).map (fun k => mj_v A0 sa (mj_av d Ia La k)))
  else if d.1 = 11 then .inl (ca 11, d.2.1, .inr (.inl La))
  else if d.1 = 13 ∨ d.1 = 14 then .inl (ca d.1, d.2.1, .inr (.inr (.inr (.inr (mj_qf A0 sa d.2.2)))))
  else .inl (ca d.1, d.2.1, .inl Ia)
def mj_A (A0 : Nat) : Nat → Prop := fun q => A0 ≤ q
def mj_R (D : va_G) (ca : Nat → ClassId) (A0 : Nat) (sa : Nat → Nat) (h : mjH) (H : Heap) : Prop :=
  H.size = A0 + h.1.length ∧ h.1.length ≤ 1000000 ∧ ∀ (k : Nat) (d : mjD), h.1[k]? = some d → va_at D vwCl (A0 + k, mj_e ca A0 sa d (h.2.1 k) (h.2.2 k)) H
def mj_tys (ca : Nat → ClassId) : List (ClassId × FieldType) := [(ca 10, .int), (ca 11, .long), (ca 12, .byte), (ca 13, .object "PolyDesk$Poly"), (ca 14, .object "PolyDesk$Slot")]
def mj_st (a : Nat) : List Int32 := if a = 1000001 then [115, 112, 102, 116, 109] else if a = 1000002 then [2, 3, 5, 7, 11, 13] else [6, 4, 30, 14]
def mj_sv (a j : Nat) : Value := .int ((mj_st a).getD j 0)
def mj_X (D : va_G) (ca : Nat → ClassId) (A0 : Nat) (sa : Nat → Nat) (U : State) (H : Heap) : Prop :=
  va_K D vwCl (mj_tys ca) U ∧ mj_NW U ∧ va_AO "PolyDesk$Poly" U ∧ va_AO "PolyDesk$Slot" U ∧
  va_Z "PolyDesk" "KIND_LETTERS" "[C" (.ref (sa 1000001)) (mj_A A0) U H ∧ va_T .char (sa 1000001) 5 (mj_sv 1000001) (mj_A A0) U H ∧
  va_Z "PolyDesk" "PRIMES" "[I" (.ref (sa 1000002)) (mj_A A0) U H ∧ va_T .int (sa 1000002) 6 (mj_sv 1000002) (mj_A A0) U H ∧
  va_Z "PolyDesk$Notes" "HAPPENS_WITH" "[I" (.ref (sa 1000003)) (mj_A A0) U H ∧ va_T .int (sa 1000003) 4 (mj_sv 1000003) (mj_A A0) U H ∧ A0 ≤ H.size
theorem mj_NW.moved {s U : State} (hW : s.WarmedH U.vm) (h : mj_NW s) : mj_NW U := ⟨fun q hq => va_Nw.warmF hW (h.1 q hq), fun q hq => va_Nw.warmM hW (h.2 q hq)⟩
theorem mj_X.moved {D : va_G} {ca : Nat → ClassId} {A0 : Nat} {sa : Nat → Nat} {s U : State} {H : Heap} (hW : s.WarmedH U.vm) (h : mj_X D ca A0 sa s H) : mj_X D ca A0 sa U H := by
  obtain ⟨a1, a2, a3, a4, a5, a6, a7, a8, a9, b1, b2⟩ := h
  have hA := hW.alike
  exact ⟨va_K.moved hA a1, a2.moved hW, va_AO.moved hA a3, va_AO.moved hA a4, va_Z.moved hA a5, va_T.moved hA a6, va_Z.moved hA a7, va_T.moved hA a8, va_Z.moved hA a9, va_T.moved hA b1, b2⟩
theorem mj_X.same {D : va_G} {ca : Nat → ClassId} {A0 : Nat} {sa : Nat → Nat} {s U : State} {H : Heap} (hA : s.vm = U.vm) (h : mj_X D ca A0 sa s H) : mj_X D ca A0 sa U H := by
  obtain ⟨a1, a2, a3, a4, a5, a6, a7, a8, a9, b1, b2⟩ := h
  have hA2 : s.vm.Alike U.vm := by rw [hA]; exact Vm.Alike.refl _
  exact ⟨va_K.moved hA2 a1, ⟨fun q hq => va_Nw.same rfl hA (a2.1 q hq), fun q hq => va_Nw.same rfl hA (a2.2 q hq)⟩, va_AO.moved hA2 a3, va_AO.moved hA2 a4, va_Z.moved hA2 a5, va_T.moved hA2 a6, va_Z.moved hA2 a7, va_T.moved hA2 a8, va_Z.moved hA2 a9, va_T.moved hA2 b1, b2⟩
theorem mj_X.kept {D : va_G} {ca : Nat → ClassId} {A0 : Nat} {sa : Nat → Nat} {s : State} {H H1 : Heap} (h : mj_X D ca A0 sa s H) (hz : H.size ≤ H1.size) (hq : ∀ a : Nat, a < H.size → ¬ mj_A A0 a → H1[a]? = H[a]?) : mj_X D ca A0 sa s H1 := by
  obtain ⟨a1, a2, a3, a4, a5, a6, a7, a8, a9, b1, b2⟩ := h
  exact ⟨a1, a2, a3, a4, a5.kept hq, a6.kept hq, a7.kept hq, a8.kept hq, a9.kept hq, b1.kept hq, Nat.le_trans b2 hz⟩
theorem mj_ad_lo {A0 : Nat} {sa : Nat → Nat} {a : Nat} (h : a < 1000000) : mj_ad A0 sa a = A0 + a := if_pos h
theorem mj_e_obj {ca : Nat → ClassId} {A0 : Nat} {sa : Nat → Nat} {ci n : Nat} {rs : List (Option Nat)} {Ia : Nat → Int32} {La : Nat → Int64} (h : ci < 10) : mj_e ca A0 sa (ci, n, rs) Ia La = .inr (ci, (List.range n).map (fun k => mj_v A0 sa (mj_av (ci, n, rs) Ia La k))) := if_pos h
theorem mj_e_i {ca : Nat → ClassId} {A0 : Nat} {sa : Nat → Nat} {n : Nat} {rs : List (Option Nat)} {Ia : Nat → Int32} {La : Nat → Int64} : mj_e ca A0 sa (10, n, rs) Ia La = .inl (ca 10, n, .inl Ia) := rfl
theorem mj_e_l {ca : Nat → ClassId} {A0 : Nat} {sa : Nat → Nat} {n : Nat} {rs : List (Option Nat)} {Ia : Nat → Int32} {La : Nat → Int64} : mj_e ca A0 sa (11, n, rs) Ia La = .inl (ca 11, n, .inr (.inl La)) := rfl
theorem mj_e_b {ca : Nat → ClassId} {A0 : Nat} {sa : Nat → Nat} {n : Nat} {rs : List (Option Nat)} {Ia : Nat → Int32} {La : Nat → Int64} : mj_e ca A0 sa (12, n, rs) Ia La = .inl (ca 12, n, .inl Ia) := rfl
theorem mj_e_q {ca : Nat → ClassId} {A0 : Nat} {sa : Nat → Nat} {t n : Nat} {rs : List (Option Nat)} {Ia : Nat → Int32} {La : Nat → Int64} (h : t = 13 ∨ t = 14) : mj_e ca A0 sa (t, n, rs) Ia La = .inl (ca t, n, .inr (.inr (.inr (.inr (mj_qf A0 sa rs))))) := by
  rcases h with rfl | rfl <;> rfl
theorem mj_R.lt {D : va_G} {ca : Nat → ClassId} {A0 : Nat} {sa : Nat → Nat} {h : mjH} {H : Heap} (hR : mj_R D ca A0 sa h H) {a : Nat} {d : mjD} (hd : h.1[a]? = some d) : a < 1000000 := Nat.lt_of_lt_of_le (List.getElem?_eq_some_iff.mp hd).1 hR.2.1
theorem mj_R.one {D : va_G} {ca : Nat → ClassId} {A0 : Nat} {sa : Nat → Nat} {h : mjH} {H : Heap} (hR : mj_R D ca A0 sa h H) {a : Nat} {d : mjD} (hd : h.1[a]? = some d) : va_P D vwCl [(mj_ad A0 sa a, mj_e ca A0 sa d (h.2.1 a) (h.2.2 a))] H := by
  intro k q hq
  have hk : k < 1 := (List.getElem?_eq_some_iff.mp hq).1
  obtain rfl : k = 0 := by omega
  cases hq
  rw [mj_ad_lo (hR.lt hd)]
  exact hR.2.2 a d hd
/-- the records, the ends, the judgement -/
def mj_rm (M : mjM) (K : Nat × Nat) : Room := { frames := mj_f M, cells := K.1, slots := K.2, locals := mj_l M }
def mj_C (D : va_G) (ca : Nat → ClassId) (A0 : Nat) (sa : Nat → Nat) (M : mjM) (p : Program) (s : State) (m : MethodId) (args : Array Value) (meth : Method) (c : Code) : Prop :=
  p.tables.exec = Jvm.exec ∧ c.code = mj_b M ∧ c.maxLocals = mj_n M ∧ meth.sig.returnType = mj_r M ∧ s.vm.findClass (mj_y M).cls = some m.cls ∧ (∀ w ∈ mj_W, w.before args s = true) ∧ meth.locks = false ∧ mj_X D ca A0 sa s s.heap ∧ ((mj_y M).name = "<init>" → meth.name = "<init>") ∧ ∀ q, mj_x M = some q → va_X (sa 1000000) q.1 q.2 s s.heap ∧ sa 1000000 < s.heap.size ∧ ¬ mj_A A0 (sa 1000000)
def mj_E (M : mjM) (pc : Nat) (v : Option Value) : Prop :=
  (∃ x : Int32, v = some (.int x) ∧ decode (mj_b M) pc = .ok (.ireturn, 1) ∧ ∃ ty, mj_r M = some ty ∧ narrow ty (.int x) = .int x) ∨
  (∃ x : Int64, v = some (.long x) ∧ decode (mj_b M) pc = .ok (.lreturn, 1) ∧ mj_r M = some .long) ∨
  ((v = some .null ∨ ∃ a, v = some (.ref a)) ∧ decode (mj_b M) pc = .ok (.areturn, 1) ∧ ∃ n, mj_r M = some (.object n)) ∨
  (v = none ∧ decode (mj_b M) pc = .ok (.return_, 1) ∧ mj_r M = none)
def V (M : mjM) (K : Nat × Nat) (RET : Option Value → mjH → Prop) (pc : Nat) (lo : List (Nat × Value)) (st : List Value) (h : mjH) (k : Nat × Nat) : Prop :=
  ∀ (D : va_G) (ca : Nat → ClassId) (A0 : Nat) (sa : Nat → Nat) (p : Program) (l : Launch) (e : Env) (s : State) (m : MethodId) (args : Array Value) (below : List Frame) (meth : Method) (c : Code) (Q : State → Prop),
    mj_C D ca A0 sa M p s m args meth c →
    (∀ (pc' : Nat) (ls' : Array Slot) (v : Option Value) (h' : mjH) (H' : Heap) (locs' : List Loc), mj_E M pc' v → RET v h' → mj_R D ca A0 sa h' H' → va_S (mj_A A0) s.heap H' locs' → W p l e (mj_rm M K) s m args below meth c H' locs' K.1 K.2 Q (F0 m pc' ls' (v.map (mj_v A0 sa)).toList)) →
    ∀ (H : Heap) (locs : List Loc) (ls : Array Slot), mj_R D ca A0 sa h H → va_S (mj_A A0) s.heap H locs → lv_has ls (mj_n M) (mj_lo A0 sa lo) → W p l e (mj_rm M K) s m args below meth c H locs k.1 k.2 Q (F0 m pc ls (st.map (mj_v A0 sa)))
def mj_Pc (D : va_G) (ca : Nat → ClassId) (A0 : Nat) (sa : Nat → Nat) (as : List Value) (h : mjH) : Array Value → State → Prop := fun v U => v = (as.map (mj_v A0 sa)).toArray ∧ mj_R D ca A0 sa h U.heap ∧ mj_X D ca A0 sa U U.heap
def mj_Qc (D : va_G) (ca : Nat → ClassId) (A0 : Nat) (sa : Nat → Nat) (RET : Option Value → mjH → Prop) : Array Value → State → Outcome → State → Prop := fun _ st o t => (∃ (v : Option Value) (h' : mjH), o = .returned (v.map (mj_v A0 sa)) ∧ RET v h' ∧ mj_R D ca A0 sa h' t.heap) ∧ va_F (mj_A A0) st t
def CT (M : mjM) (K : Nat × Nat) (as : List Value) (h : mjH) (RET : Option Value → mjH → Prop) : Prop := ∀ (D : va_G) (ca : Nat → ClassId) (A0 : Nat) (sa : Nat → Nat) (l : Launch), Met l (mj_y M) (mj_ws M) (mj_rm M K) (mj_Pc D ca A0 sa as h) (mj_Qc D ca A0 sa RET) K.1 K.2 (mj_A A0)
theorem mj_blind {D : va_G} {ca : Nat → ClassId} {A0 : Nat} {sa : Nat → Nat} {as : List Value} {h : mjH} : FrameBlind (mj_Pc D ca A0 sa as h) := fun a U g mk q => ⟨q.1, q.2.1, mj_X.same (s := U) (U := U.calling g mk a) rfl q.2.2⟩
theorem mj_init_name {M : mjM} {s : State} {m : MethodId} {meth : Method} (hn : s.methodNamed? (mj_y M) = some m) (hm : s.vm.method? m = some meth) : (mj_y M).name = "<init>" → meth.name = "<init>" := fun h => by
  rw [← h]; exact (name_of_methodNamed hn hm).1
/-- a method's body, from its entry, gives its contract -/
theorem CT.of {M : mjM} {K : Nat × Nat} {as : List Value} {h : mjH} {RET : Option Value → mjH → Prop} {lo : List (Nat × Value)} (hy : plainName (mj_y M).cls = true) (hn : ∀ (A0 : Nat) (sa : Nat → Nat), (lg_sl (as.map (mj_v A0 sa))).length ≤ mj_n M) (hlo : ∀ (A0 : Nat) (sa : Nat → Nat), lv_args 0 (as.map (mj_v A0 sa)) = mj_lo A0 sa lo)
    (hx : mj_x M = none) (kk : V M K RET 0 lo [] h (0, 0)) : CT M K as h RET := by
  intro D ca A0 sa l
  refine Met.ofW (cc := mj_b M) (maxL := mj_n M) (ret := mj_r M) hy rfl ?_
  intro p e s m args below meth c s₁ B hml hv
  obtain ⟨rfl, hR, hX⟩ := hv
  have hts := atoms_spec (ws := mj_ws M) B.pre
  have hlocks := B.notSynchronized
  have hl := lv_entry (as.map (mj_v A0 sa)) (n := mj_n M) (hn A0 sa)
  rw [hlo A0 sa] at hl
  rw [lg_entry_eq]
  refine kk D ca A0 sa p l e s m _ below meth c _ ⟨B.exec, B.bytes, hml, B.returns, findClass_of_methodNamed B.named, fun w hw => hts w (List.mem_cons_of_mem _ hw), hlocks, hX, mj_init_name B.named B.method, fun q hq => by rw [hx] at hq; cases hq⟩ ?_ s.heap [] _ hR va_S.rf hl
  intro pc' ls' v h' H' locs' hE hT hR' hS'
  have fin : ∀ t : State, t.heap = H' → mj_Qc D ca A0 sa RET (as.map (mj_v A0 sa)).toArray s (.returned (v.map (mj_v A0 sa))) t := fun t ht => ⟨⟨v, h', rfl, hT, by rw [ht]; exact hR'⟩, hS'.F ht⟩
  rcases hE with ⟨x, rfl, hd, ty, hr, hnw⟩ | ⟨x, rfl, hd, hr⟩ | ⟨hv, hd, n, hr⟩ | ⟨rfl, hd, hr⟩
  · exact W.zret B.exec B.bytes (B.returns.trans hr) hnw (fun t ht _ => fin t ht) hS'.2.2 hd hlocks
  · exact W.lret B.exec B.bytes (B.returns.trans hr) (fun t ht _ => fin t ht) hS'.2.2 hd hlocks
  · rcases hv with rfl | ⟨a, rfl⟩
    · exact W.aret B.exec B.bytes (B.returns.trans hr) (Or.inl ⟨n, rfl⟩) (Or.inl rfl) (fun t ht _ => fin t ht) hS'.2.2 hd hlocks
    · exact W.aret B.exec B.bytes (B.returns.trans hr) (Or.inl ⟨n, rfl⟩) (Or.inr ⟨mj_ad A0 sa a, rfl⟩) (fun t ht _ => fin t ht) hS'.2.2 hd hlocks
  · exact W.vret B.exec B.bytes (B.returns.trans hr) (fun t ht _ => fin t ht) hS'.2.2 hd hlocks
theorem V.ret {M : mjM} {K : Nat × Nat} {RET : Option Value → mjH → Prop} {pc : Nat} {lo : List (Nat × Value)} {h : mjH} {k : Nat × Nat} {v : Option Value} {st : List Value} (hst : st = v.toList) (hE : mj_E M pc v) (hk : k.1 ≤ K.1 ∧ k.2 ≤ K.2) (hT : RET v h) : V M K RET pc lo st h k := by
  intro D ca A0 sa p l e s m args below meth c Q C hQ H locs ls hR hS hl
  refine W.widen hk.1 hk.2 ?_
  have := hQ pc ls v h H locs hE hT hR hS
  rw [hst]
  cases v with
  | none => exact this
  | some w => exact this
