/-! THE CLAIM OUT OF ONE WALK OF THE LAW'S BODY. Your part is whole_start (and what it stands on); all else here is the same for every law, but numbers. -/
def R_law : String := "PolyDeskLaw"
def lw_P (b : Addr) (xs : List Int32) (args : Array Value) (s : State) : Prop := args = #[.ref b] ∧ s.IntsAt b xs ∧ xs.length ≤ 2048 ∧ (Jvm.Cond.and given_1 narrow_1).before args s = true
def lw_Q (_ : Array Value) (s : State) (o : Outcome) (t : State) : Prop := o = .returned (some (.int 1)) ∧ Framed s o t [] 600000 7302250
def lw_Z (below : List Frame) (a : Array Value) (s : State) : State → Prop := fun t => ∃ o, t.status = .running ∧ Ended t below o ∧ lw_Q a s o t
/-- the law's own end, with 1 on the stack, nothing written that was there before, its room as the claim has it -/
theorem lw_ret {p : Program} {l : Launch} {e : Env} {s : State} {m : MethodId} {below : List Frame} {meth : Method} {c : Code} {b : Nat} (hx : p.tables.exec = Jvm.exec) (hb : c.code = code) (hr : meth.sig.returnType = ret) (hlocks : meth.locks = false) {pc : Nat} {H : Heap} {ls : Array Slot} (hdg : decode code pc = .ok (.ireturn, 1)) : W p l e room_1 s m #[Value.ref b] below meth c H [] 600000 7302250 (lw_Z below #[Value.ref b] s) (F0 m pc ls [.int 1]) := by
  intro T hT X
  obtain ⟨fs, hret, hrun, hended, hW, hframe⟩ := X.leave (v := some (.int 1)) (hlocks := hlocks) (fun h => by rw [hr] at h; cases h)
  have hmeth' : T.vm.method? m = some meth := X.method'
  refine ⟨T.setFrames fs, ?_, .returned (some (.int 1)), hrun, hended, rfl, ⟨_, rfl⟩, hW, hframe⟩
  jvm_step X.here [X.here.top, hx, hb, hdg, hmeth', hr, ret, narrow_b1]
  (try refine ⟨rfl, ?_⟩); (try refine ⟨rfl, ?_⟩)
  first | (intro acts; rw [hret _ acts rfl rfl rfl]) | rw [hret _ _ rfl rfl rfl]
  exact Steps.refl _
/-- what holds at the law's entry: the machine, the code, the tables' words (any of lw_tbl by 'hts w (by decide +kernel)'), the script of L ints xs at the cell b, what the Statement gives of the start (any of its parts by flat_of_before) -/
def lw_At (p : Program) (s : State) (m : MethodId) (meth : Method) (c : Code) (b L : Nat) (xs : Nat → Int32) : Prop :=
  p.tables.exec = Jvm.exec ∧ c.code = code ∧ meth.sig.returnType = ret ∧ c.maxLocals = 4 ∧ s.vm.findClass R_law = some m.cls ∧ (∀ w ∈ lw_tbl, w.before #[Value.ref b] s = true) ∧ va_X b L xs s s.heap ∧ b < s.heap.size ∧ meth.locks = false ∧ (Jvm.Cond.and given_1 narrow_1).before #[Value.ref b] s = true
-- ===== YOUR PART BEGINS =====
theorem mj_over {args : Array Value} {s : State} {n : String} (h : (Cond.arrayOver (.object n)).before args s = true) : ∃ (c : ClassId) (k : Class) (comp : ClassId), s.vm.findClass ("[" ++ (FieldType.object n).toString) = some c ∧ s.vm.classes[c]? = some k ∧ k.kind = .array comp (.object n) ∧ s.vm.findClass n = some comp := by
  obtain ⟨comp, c, k, h1, -, h3, h4, h5⟩ := Cond.arrayOver_spec h
  exact ⟨c, k, comp, h5, h3, h4, h1⟩
theorem mj_NWf_in : ∀ q ∈ mj_NWf, mj_nf q ∈ lw_tbl := by decide +kernel
theorem mj_NWm_in : ∀ q ∈ mj_NWm, mj_nm q ∈ lw_tbl := by decide +kernel
set_option maxHeartbeats 4000000 in
set_option maxRecDepth 100000 in
/-- from the law's entry: what the tables and the start give, then the small machine -/
theorem whole_start_of (HL : ∀ (n : Nat) (xs : Nat → Int32), n ≤ 2048 → hd_L_law_18 n xs SH (fun v _ => v = some (.int 1)) 0 174 (0 : Int32) I00 mj_Zl) {p : Program} {e : Env} {s : State} {m : MethodId} {below : List Frame} {meth : Method} {c : Code} (l : Launch) {b L : Nat} {xs : Nat → Int32} (hL : L ≤ 2048) (C0 : lw_At p s m meth c b L xs) : W p l e room_1 s m #[Value.ref b] below meth c s.heap [] 0 0 (lw_Z below #[Value.ref b] s) (entryFrame m ([Value.ref b] : List Value).toArray 4) := by
  obtain ⟨hx, hb, hr, hml, hown, hts, hX, hbl, hlocks, hgv⟩ := id C0
  have hW : ∀ w ∈ mj_W, w.before #[Value.ref b] s = true := fun w hw => hts w (List.mem_filter.mp hw).1
  have hs := flat_of_before _ hgv
  have hA : ∀ a : Nat, a < s.heap.size → ¬ mj_A s.heap.size a := fun a h => Nat.not_le.mpr h
  obtain ⟨c0, iS0, kn0⟩ := u_known (C := RX0) (T := TX0) (N := 7) (n := 7) hW in_X0 (hW _ inst_X0)
  obtain ⟨c1, iS1, kn1⟩ := u_known (C := RX1) (T := TX1) (N := 3) (n := 3) hW in_X1 (hW _ inst_X1)
  obtain ⟨c2, iS2, kn2⟩ := u_known (C := RX2) (T := TX2) (N := 2) (n := 2) hW in_X2 (hW _ inst_X2)
  obtain ⟨c3, iS3, kn3⟩ := u_known (C := RX3) (T := TX3) (N := 3) (n := 3) hW in_X3 (hW _ inst_X3)
  obtain ⟨c4, iS4, kn4⟩ := u_known (C := RX4) (T := TX4) (N := 5) (n := 5) hW in_X4 (hW _ inst_X4)
  obtain ⟨c5, iS5, kn5⟩ := u_known (C := RX5) (T := TX5) (N := 1) (n := 1) hW in_X5 (hW _ inst_X5)
  obtain ⟨c6, iS6, kn6⟩ := u_known (C := RX6) (T := TX6) (N := 6) (n := 6) hW in_X6 (hW _ inst_X6)
  obtain ⟨c7, iS7, kn7⟩ := u_known (C := RX7) (T := TX7) (N := 4) (n := 4) hW in_X7 (hW _ inst_X7)
  obtain ⟨c8, iS8, kn8⟩ := u_known (C := RX8) (T := TX8) (N := 15) (n := 15) hW in_X8 (hW _ inst_X8)
  obtain ⟨c9, iS9, kn9⟩ := u_known (C := RX9) (T := TX9) (N := 58) (n := 58) hW in_X9 (hW _ inst_X9)
  obtain ⟨a10, kA10, cm10, f10, g10, h10⟩ := Cond.arrayClass_spec (hW _ arr_int)
  obtain ⟨a11, kA11, cm11, f11, g11, h11⟩ := Cond.arrayClass_spec (hW _ arr_long)
  obtain ⟨a12, kA12, cm12, f12, g12, h12⟩ := Cond.arrayClass_spec (hW _ arr_byte)
  obtain ⟨a13, kA13, cm13, f13, g13, h13, p13⟩ := mj_over (hts (.arrayOver (.object "PolyDesk$Poly")) (List.mem_of_getElem? (i := 198) (by decide +kernel)))
  obtain ⟨a14, kA14, cm14, f14, g14, h14, p14⟩ := mj_over (hts (.arrayOver (.object "PolyDesk$Slot")) (List.mem_of_getElem? (i := 235) (by decide +kernel)))
  obtain ⟨t1, ev1, T1⟩ : ∃ t : Nat, (Term.static "PolyDesk" "KIND_LETTERS" "[C").eval #[Value.ref b] s none [] s = some (.ref t) ∧ va_T .char t 5 (mj_sv 1000001) (mj_A s.heap.size) s s.heap := by
    refine va_Tof (by decide) (hs (.arrayOf (.static "PolyDesk" "KIND_LETTERS" "[C") .char) (by decide +kernel)) (va_eqt (t := .length (.static "PolyDesk" "KIND_LETTERS" "[C")) (z := 5) (hs (.eq (.length (.static "PolyDesk" "KIND_LETTERS" "[C")) (.int 5)) (by decide +kernel))) (fun j hj => ?_) hA
    · have h5 : j = 0 ∨ j = 1 ∨ j = 2 ∨ j = 3 ∨ j = 4 := by omega
      rcases h5 with rfl | rfl | rfl | rfl | rfl
      · exact va_eqt (t := .elem (.static "PolyDesk" "KIND_LETTERS" "[C") (.int (Int32.ofNat 0))) (z := 115) (hs (.eq (.elem (.static "PolyDesk" "KIND_LETTERS" "[C") (.int 0)) (.int 115)) (by decide +kernel))
      · exact va_eqt (t := .elem (.static "PolyDesk" "KIND_LETTERS" "[C") (.int (Int32.ofNat 1))) (z := 112) (hs (.eq (.elem (.static "PolyDesk" "KIND_LETTERS" "[C") (.int 1)) (.int 112)) (by decide +kernel))
      · exact va_eqt (t := .elem (.static "PolyDesk" "KIND_LETTERS" "[C") (.int (Int32.ofNat 2))) (z := 102) (hs (.eq (.elem (.static "PolyDesk" "KIND_LETTERS" "[C") (.int 2)) (.int 102)) (by decide +kernel))
      · exact va_eqt (t := .elem (.static "PolyDesk" "KIND_LETTERS" "[C") (.int (Int32.ofNat 3))) (z := 116) (hs (.eq (.elem (.static "PolyDesk" "KIND_LETTERS" "[C") (.int 3)) (.int 116)) (by decide +kernel))
      · exact va_eqt (t := .elem (.static "PolyDesk" "KIND_LETTERS" "[C") (.int (Int32.ofNat 4))) (z := 109) (hs (.eq (.elem (.static "PolyDesk" "KIND_LETTERS" "[C") (.int 4)) (.int 109)) (by decide +kernel))
  have Z1 : va_Z "PolyDesk" "KIND_LETTERS" "[C" (.ref t1) (mj_A s.heap.size) s s.heap := va_Zref (hts (.laysStatic "PolyDesk" "KIND_LETTERS" "[C") (List.mem_of_getElem? (i := 390) (by decide +kernel))) (hW _ ini_X8) ev1 hA
  obtain ⟨t2, ev2, T2⟩ : ∃ t : Nat, (Term.static "PolyDesk" "PRIMES" "[I").eval #[Value.ref b] s none [] s = some (.ref t) ∧ va_T .int t 6 (mj_sv 1000002) (mj_A s.heap.size) s s.heap := by
    refine va_Tof (by decide) (hs (.arrayOf (.static "PolyDesk" "PRIMES" "[I") .int) (by decide +kernel)) (va_eqt (t := .length (.static "PolyDesk" "PRIMES" "[I")) (z := 6) (hs (.eq (.length (.static "PolyDesk" "PRIMES" "[I")) (.int 6)) (by decide +kernel))) (fun j hj => ?_) hA
    · have h5 : j = 0 ∨ j = 1 ∨ j = 2 ∨ j = 3 ∨ j = 4 ∨ j = 5 := by omega
      rcases h5 with rfl | rfl | rfl | rfl | rfl | rfl
      · exact va_eqt (t := .elem (.static "PolyDesk" "PRIMES" "[I") (.int (Int32.ofNat 0))) (z := 2) (hs (.eq (.elem (.static "PolyDesk" "PRIMES" "[I") (.int 0)) (.int 2)) (by decide +kernel))
      · exact va_eqt (t := .elem (.static "PolyDesk" "PRIMES" "[I") (.int (Int32.ofNat 1))) (z := 3) (hs (.eq (.elem (.static "PolyDesk" "PRIMES" "[I") (.int 1)) (.int 3)) (by decide +kernel))
      · exact va_eqt (t := .elem (.static "PolyDesk" "PRIMES" "[I") (.int (Int32.ofNat 2))) (z := 5) (hs (.eq (.elem (.static "PolyDesk" "PRIMES" "[I") (.int 2)) (.int 5)) (by decide +kernel))
      · exact va_eqt (t := .elem (.static "PolyDesk" "PRIMES" "[I") (.int (Int32.ofNat 3))) (z := 7) (hs (.eq (.elem (.static "PolyDesk" "PRIMES" "[I") (.int 3)) (.int 7)) (by decide +kernel))
      · exact va_eqt (t := .elem (.static "PolyDesk" "PRIMES" "[I") (.int (Int32.ofNat 4))) (z := 11) (hs (.eq (.elem (.static "PolyDesk" "PRIMES" "[I") (.int 4)) (.int 11)) (by decide +kernel))
      · exact va_eqt (t := .elem (.static "PolyDesk" "PRIMES" "[I") (.int (Int32.ofNat 5))) (z := 13) (hs (.eq (.elem (.static "PolyDesk" "PRIMES" "[I") (.int 5)) (.int 13)) (by decide +kernel))
  have Z2 : va_Z "PolyDesk" "PRIMES" "[I" (.ref t2) (mj_A s.heap.size) s s.heap := va_Zref (hts (.laysStatic "PolyDesk" "PRIMES" "[I") (List.mem_of_getElem? (i := 673) (by decide +kernel))) (hW _ ini_X8) ev2 hA
  obtain ⟨t3, ev3, T3⟩ : ∃ t : Nat, (Term.static "PolyDesk$Notes" "HAPPENS_WITH" "[I").eval #[Value.ref b] s none [] s = some (.ref t) ∧ va_T .int t 4 (mj_sv 1000003) (mj_A s.heap.size) s s.heap := by
    refine va_Tof (by decide) (hs (.arrayOf (.static "PolyDesk$Notes" "HAPPENS_WITH" "[I") .int) (by decide +kernel)) (va_eqt (t := .length (.static "PolyDesk$Notes" "HAPPENS_WITH" "[I")) (z := 4) (hs (.eq (.length (.static "PolyDesk$Notes" "HAPPENS_WITH" "[I")) (.int 4)) (by decide +kernel))) (fun j hj => ?_) hA
    · have h5 : j = 0 ∨ j = 1 ∨ j = 2 ∨ j = 3 := by omega
      rcases h5 with rfl | rfl | rfl | rfl
      · exact va_eqt (t := .elem (.static "PolyDesk$Notes" "HAPPENS_WITH" "[I") (.int (Int32.ofNat 0))) (z := 6) (hs (.eq (.elem (.static "PolyDesk$Notes" "HAPPENS_WITH" "[I") (.int 0)) (.int 6)) (by decide +kernel))
      · exact va_eqt (t := .elem (.static "PolyDesk$Notes" "HAPPENS_WITH" "[I") (.int (Int32.ofNat 1))) (z := 4) (hs (.eq (.elem (.static "PolyDesk$Notes" "HAPPENS_WITH" "[I") (.int 1)) (.int 4)) (by decide +kernel))
      · exact va_eqt (t := .elem (.static "PolyDesk$Notes" "HAPPENS_WITH" "[I") (.int (Int32.ofNat 2))) (z := 30) (hs (.eq (.elem (.static "PolyDesk$Notes" "HAPPENS_WITH" "[I") (.int 2)) (.int 30)) (by decide +kernel))
      · exact va_eqt (t := .elem (.static "PolyDesk$Notes" "HAPPENS_WITH" "[I") (.int (Int32.ofNat 3))) (z := 14) (hs (.eq (.elem (.static "PolyDesk$Notes" "HAPPENS_WITH" "[I") (.int 3)) (.int 14)) (by decide +kernel))
  have Z3 : va_Z "PolyDesk$Notes" "HAPPENS_WITH" "[I" (.ref t3) (mj_A s.heap.size) s s.heap := va_Zref (hts (.laysStatic "PolyDesk$Notes" "HAPPENS_WITH" "[I") (List.mem_of_getElem? (i := 560) (by decide +kernel))) (hW _ ini_X3) ev3 hA
  let sa : Nat → Nat := fun a => if a = 1000000 then b else if a = 1000001 then t1 else if a = 1000002 then t2 else t3
  let ca : Nat → ClassId := fun t => if t = 10 then a10 else if t = 11 then a11 else if t = 12 then a12 else if t = 13 then a13 else a14
  have hl := lv_entry ([.ref b]) (n := 4) (Nat.le_of_ble_eq_true rfl)
  rw [lg_entry_eq]
  have hl : lv_has _ 4 [(0, .ref b)] := hl
  have hK : va_K ((fun k => if k = 0 then c0 else if k = 1 then c1 else if k = 2 then c2 else if k = 3 then c3 else if k = 4 then c4 else if k = 5 then c5 else if k = 6 then c6 else if k = 7 then c7 else if k = 8 then c8 else c9), (fun k => if k = 0 then iS0 else if k = 1 then iS1 else if k = 2 then iS2 else if k = 3 then iS3 else if k = 4 then iS4 else if k = 5 then iS5 else if k = 6 then iS6 else if k = 7 then iS7 else if k = 8 then iS8 else iS9)) vwCl (mj_tys ca) s := by
    refine ⟨fun k q hq => ?_, fun k q hq => ?_⟩
    · match k, hq with
      | 0, hq => cases hq; exact kn0
      | 1, hq => cases hq; exact kn1
      | 2, hq => cases hq; exact kn2
      | 3, hq => cases hq; exact kn3
      | 4, hq => cases hq; exact kn4
      | 5, hq => cases hq; exact kn5
      | 6, hq => cases hq; exact kn6
      | 7, hq => cases hq; exact kn7
      | 8, hq => cases hq; exact kn8
      | 9, hq => cases hq; exact kn9
      | k + 10, hq => simp [vwCl] at hq
    · match k, hq with
      | 0, hq => cases hq; exact ⟨fun n z => ⟨fun k h => (by cases h), kA10, g10, cm10, h10⟩, f10⟩
      | 1, hq => cases hq; exact ⟨fun n z => ⟨fun k h => (by cases h), kA11, g11, cm11, h11⟩, f11⟩
      | 2, hq => cases hq; exact ⟨fun n z => ⟨fun k h => (by cases h), kA12, g12, cm12, h12⟩, f12⟩
      | 3, hq => cases hq; exact ⟨fun n z => ⟨fun k h => (by cases h), kA13, g13, cm13, h13⟩, kA13, cm13, g13, h13, p13, f13⟩
      | 4, hq => cases hq; exact ⟨fun n z => ⟨fun k h => (by cases h), kA14, g14, cm14, h14⟩, kA14, cm14, g14, h14, p14, f14⟩
      | k + 5, hq => simp [mj_tys] at hq
  have hC : mj_C ((fun k => if k = 0 then c0 else if k = 1 then c1 else if k = 2 then c2 else if k = 3 then c3 else if k = 4 then c4 else if k = 5 then c5 else if k = 6 then c6 else if k = 7 then c7 else if k = 8 then c8 else c9), (fun k => if k = 0 then iS0 else if k = 1 then iS1 else if k = 2 then iS2 else if k = 3 then iS3 else if k = 4 then iS4 else if k = 5 then iS5 else if k = 6 then iS6 else if k = 7 then iS7 else if k = 8 then iS8 else iS9)) ca s.heap.size sa (mr_L_law L xs) p s m #[Value.ref b] meth c := by
    refine ⟨hx, hb, hml, hr, hown, hW, hlocks, ⟨hK, ⟨fun q hq => va_Nw.of rfl (hts _ (mj_NWf_in q hq)), fun q hq => va_Nw.of rfl (hts _ (mj_NWm_in q hq))⟩, va_AO.of (hts (.arrayOver (.object "PolyDesk$Poly")) (List.mem_of_getElem? (i := 198) (by decide +kernel))) , va_AO.of (hts (.arrayOver (.object "PolyDesk$Slot")) (List.mem_of_getElem? (i := 235) (by decide +kernel))), Z1, T1, Z2, T2, Z3, T3, Nat.le_refl _⟩, fun h => absurd (show "law" = "<init>" from h) (by decide), fun q hq => ?_⟩
    cases hq
    exact ⟨hX, hbl, hA b hbl⟩
  refine wp_L_law (HL L xs hL) _ ca s.heap.size sa p l e s m _ below meth c _ hC ?_ s.heap [] _ ⟨rfl, Nat.zero_le _, fun k d hk => by simp at hk⟩ va_S.rf hl
  intro pc' ls' v h' H' locs' hE hT hR hS
  subst hT
  refine va_forget (fun q hq => hS.2.2 q hq) ?_
  rcases hE with ⟨x, hx', hd, -⟩ | ⟨x, hx', -⟩ | ⟨hv, -⟩ | ⟨hv, -⟩
  · cases hx'
    exact lw_ret hx hb hr hlocks hd
  · cases hx'
  · rcases hv with hv | ⟨a, hv⟩ <;> cases hv
  · cases hv
theorem whole_start (HL : ∀ (n : Nat) (xs : Nat → Int32), n ≤ 2048 → hd_L_law_18 n xs SH (fun v _ => v = some (.int 1)) 0 174 (0 : Int32) I00 mj_Zl) {p : Program} {e : Env} {s : State} {m : MethodId} {below : List Frame} {meth : Method} {c : Code} (l : Launch) (hflags : l.flags = flags0) {b L : Nat} {xs : Nat → Int32} (hL : L ≤ 2048) (C0 : lw_At p s m meth c b L xs) : W p l e room_1 s m #[Value.ref b] below meth c s.heap [] 0 0 (lw_Z below #[Value.ref b] s) (entryFrame m ([Value.ref b] : List Value).toArray 4) := whole_start_of HL l hL C0
