/-! ROWS OF THE SMALL MACHINE: what is made, what is called -/
section
set_option linter.unusedVariables false
def mj_z {α : Type} (z : α) (I : Nat → Nat → α) (n : Nat) : Nat → Nat → α := fun b j => if b = n then z else I b j
theorem mj_z_ne {α : Type} {z : α} {I : Nat → Nat → α} {n b : Nat} (h : b ≠ n) : mj_z z I n b = I b := by
  funext j
  simp [mj_z, h]
theorem mj_z_self {α : Type} {z : α} {I : Nat → Nat → α} {n : Nat} : mj_z z I n n = fun _ => z := by
  funext j
  simp [mj_z]
def mj_push (h : mjH) (d : mjD) : mjH := (h.1 ++ [d], mj_z 0 h.2.1 h.1.length, mj_z 0 h.2.2 h.1.length)
theorem mj_R.push {D : va_G} {ca : Nat → ClassId} {A0 : Nat} {sa : Nat → Nat} {h : mjH} {H H1 : Heap} {d : mjD} (hR : mj_R D ca A0 sa h H) (hlen : h.1.length + 1 ≤ 1000000) (hat : va_at D vwCl (A0 + h.1.length, mj_e ca A0 sa d (fun _ => 0) (fun _ => 0)) H1) (hz : H1.size = H.size + 1) (hq : ∀ q : Nat, q < H.size → H1[q]? = H[q]?) : mj_R D ca A0 sa (mj_push h d) H1 := by
  refine ⟨by rw [hz, hR.1]; simp [mj_push]; omega, by simpa [mj_push] using hlen, fun b e hb => ?_⟩
  have hb' : (h.1 ++ [d])[b]? = some e := hb
  by_cases hlt : b < h.1.length
  · rw [List.getElem?_append_left hlt] at hb'
    show va_at D vwCl (A0 + b, mj_e ca A0 sa e (mj_z 0 h.2.1 h.1.length b) (mj_z 0 h.2.2 h.1.length b)) H1
    rw [mj_z_ne (by omega), mj_z_ne (by omega)]
    exact (hR.2.2 b e hb').kept (hq _ (by rw [hR.1]; show A0 + b < A0 + h.1.length; omega))
  · rw [List.getElem?_append_right (by omega)] at hb'
    have h0 : b - h.1.length < 1 := (List.getElem?_eq_some_iff.mp hb').1
    obtain rfl : b = h.1.length := by omega
    rw [show h.1.length - h.1.length = 0 by omega] at hb'
    cases hb'
    show va_at D vwCl (A0 + h.1.length, mj_e ca A0 sa d (mj_z 0 h.2.1 h.1.length h.1.length) (mj_z 0 h.2.2 h.1.length h.1.length)) H1
    rw [mj_z_self, mj_z_self]
    exact hat
theorem mj_S.push {A0 : Nat} {H0 H H1 : Heap} {locs : List Loc} (hS : va_S (mj_A A0) H0 H locs) (hz : H1.size = H.size + 1) (hq : ∀ q : Nat, q < H.size → H1[q]? = H[q]?) : va_S (mj_A A0) H0 H1 locs :=
  ⟨Nat.le_trans hS.1 (by omega), fun x h1 h2 => (hq x (Nat.lt_of_lt_of_le h1 hS.1)).trans (hS.2.1 x h1 h2), hS.2.2⟩
theorem mj_v_def {A0 : Nat} {sa : Nat → Nat} (t : FieldType) : mj_v A0 sa (defaultValue t) = defaultValue t := by cases t <;> rfl
theorem V.new {M : mjM} {K : Nat × Nat} {RET : Option Value → mjH → Prop} {pc : Nat} {lo : List (Nat × Value)} {st : List Value} {h : mjH} {k : Nat × Nat} {idx ci N : Nat} {Cn : String} {T : u_T} {ty : Nat → FieldType} (hd : decode (mj_b M) pc = .ok (.new idx, 3)) (hc : vwCl[ci]? = some (Cn, T, N)) (hin : ∀ w ∈ u_ws Cn T N, w ∈ mj_W) (hty : ∀ k, k < N → parseFieldDescriptor (T k).2.2.1 = some (ty k)) (hw1 : Cond.classLink (mj_y M).cls idx Cn ∈ mj_W) (hw2 : Cond.instantiable Cn N ∈ mj_W) (hw3 : Cond.initialized Cn ∈ mj_W)
    (hfs : ∀ j, j < N → mj_av (ci, N, List.replicate N none) (fun _ => 0) (fun _ => 0) j = defaultValue (ty j)) (hlen : h.1.length + 1 ≤ 1000000) (hk1 : k.1 + 1 ≤ K.1) (hk2 : k.2 + N ≤ K.2) {b : Nat} (hb : h.1.length = b) (kk : V M K RET (pc + 3) lo (.ref b :: st) (mj_push h (ci, N, List.replicate N none)) (k.1 + 1, k.2 + N)) : V M K RET pc lo st h k := by
  subst hb
  intro D ca A0 sa p l e s m args below meth c Q C hQ H locs ls hR hS hl
  have hw := C.2.2.2.2.2.1
  have hKn := C.2.2.2.2.2.2.2.1.1.1 ci _ hc
  refine W.newcK C.1 C.2.1 C.2.2.2.2.1 (hw _ hw1) (hw _ hw2) (hw _ hw3) rfl hd hk1 hk2 hKn.2.1 hR.1 fun H1 kC hkC e1 z1 o1 => ?_
  have hq : ∀ q : Nat, q < H.size → H1[q]? = H[q]? := fun q h => o1 q (by rw [← hR.1]; exact h)
  have hz : H1.size = H.size + 1 := by rw [z1, hR.1]
  have k2 := kk D ca A0 sa p l e s m args below meth c Q C hQ H1 locs ls (hR.push hlen ?_ hz hq) (mj_S.push hS hz hq) hl
  · rw [List.map_cons, show mj_v A0 sa (.ref h.1.length) = .ref (A0 + h.1.length) from congrArg Value.ref (mj_ad_lo (by omega))] at k2
    exact k2
  · rw [mj_e_obj (mj_ci hc)]
    refine ⟨_, hc, (u_born ty hw hin hKn hkC e1 hty).to (fun j hj => ?_)⟩
    unfold vp_V
    rw [List.getD_eq_getElem?_getD, mj_fs hj (hfs j hj), mj_v_def]
    rfl
theorem mj_arr {D : va_G} {ca : Nat → ClassId} {s : State} {ty : FieldType} {t cA : ClassId} {j : Nat} (hK : va_K D vwCl (mj_tys ca) s) (hj : (mj_tys ca)[j]? = some (t, ty)) (h : s.vm.findClass ("[" ++ ty.toString) = some cA) : cA = t := by
  have h2 := (hK.2 j _ hj).2
  cases ty with
  | object C =>
    obtain ⟨kA, comp, h1, h2, h3, h4⟩ := h2
    exact Option.some.inj (h.symm.trans h4)
  | _ => exact Option.some.inj (h.symm.trans h2)
theorem V.newi {M : mjM} {K : Nat × Nat} {RET : Option Value → mjH → Prop} {pc : Nat} {lo : List (Nat × Value)} {st : List Value} {h : mjH} {k : Nat × Nat} {n : Nat} {x : Int32} (hd : decode (mj_b M) pc = .ok (.newarray .int, 2)) (hw : Cond.arrayClass .int ∈ mj_W) (hx : ¬ x < 0) (hn : x.toNatClampNeg = n) (hb : n * componentBytes .int ≤ 536870912) (hlen : h.1.length + 1 ≤ 1000000) (hk1 : k.1 + 1 ≤ K.1) (hk2 : k.2 + n ≤ K.2) {b : Nat} (hb0 : h.1.length = b) (kk : V M K RET (pc + 2) lo (.ref b :: st) (mj_push h (10, n, [])) (k.1 + 1, k.2 + n)) : V M K RET pc lo (.int x :: st) h k := by
  subst hb0
  intro D ca A0 sa p l e s m args below meth c Q C hQ H locs ls hR hS hl
  refine va_newaK (atype := .int) C.1 C.2.1 (C.2.2.2.2.2.1 _ hw) rfl hd rfl hx hn hb hk1 hk2 hR.1 fun H1 cA e1 z1 o1 hAr hNm => ?_
  obtain rfl := mj_arr (ty := .int) (j := 0) C.2.2.2.2.2.2.2.1.1 rfl hNm
  have hq : ∀ q : Nat, q < H.size → H1[q]? = H[q]? := fun q h => o1 q (by rw [← hR.1]; exact h)
  have hz : H1.size = H.size + 1 := by rw [z1, hR.1]
  have k2 := kk D ca A0 sa p l e s m args below meth c Q C hQ H1 locs ls (hR.push hlen e1 hz hq) (mj_S.push hS hz hq) hl
  rw [List.map_cons, show mj_v A0 sa (.ref h.1.length) = .ref (A0 + h.1.length) from congrArg Value.ref (mj_ad_lo (by omega))] at k2
  exact k2
theorem V.newl {M : mjM} {K : Nat × Nat} {RET : Option Value → mjH → Prop} {pc : Nat} {lo : List (Nat × Value)} {st : List Value} {h : mjH} {k : Nat × Nat} {n : Nat} {x : Int32} (hd : decode (mj_b M) pc = .ok (.newarray .long, 2)) (hw : Cond.arrayClass .long ∈ mj_W) (hx : ¬ x < 0) (hn : x.toNatClampNeg = n) (hb : n * componentBytes .long ≤ 536870912) (hlen : h.1.length + 1 ≤ 1000000) (hk1 : k.1 + 1 ≤ K.1) (hk2 : k.2 + n ≤ K.2) {b : Nat} (hb0 : h.1.length = b) (kk : V M K RET (pc + 2) lo (.ref b :: st) (mj_push h (11, n, [])) (k.1 + 1, k.2 + n)) : V M K RET pc lo (.int x :: st) h k := by
  subst hb0
  intro D ca A0 sa p l e s m args below meth c Q C hQ H locs ls hR hS hl
  refine va_newaK (atype := .long) C.1 C.2.1 (C.2.2.2.2.2.1 _ hw) rfl hd rfl hx hn hb hk1 hk2 hR.1 fun H1 cA e1 z1 o1 hAr hNm => ?_
  obtain rfl := mj_arr (ty := .long) (j := 1) C.2.2.2.2.2.2.2.1.1 rfl hNm
  have hq : ∀ q : Nat, q < H.size → H1[q]? = H[q]? := fun q h => o1 q (by rw [← hR.1]; exact h)
  have hz : H1.size = H.size + 1 := by rw [z1, hR.1]
  have k2 := kk D ca A0 sa p l e s m args below meth c Q C hQ H1 locs ls (hR.push hlen e1 hz hq) (mj_S.push hS hz hq) hl
  rw [List.map_cons, show mj_v A0 sa (.ref h.1.length) = .ref (A0 + h.1.length) from congrArg Value.ref (mj_ad_lo (by omega))] at k2
  exact k2
theorem V.newb {M : mjM} {K : Nat × Nat} {RET : Option Value → mjH → Prop} {pc : Nat} {lo : List (Nat × Value)} {st : List Value} {h : mjH} {k : Nat × Nat} {n : Nat} {x : Int32} (hd : decode (mj_b M) pc = .ok (.newarray .byte, 2)) (hw : Cond.arrayClass .byte ∈ mj_W) (hx : ¬ x < 0) (hn : x.toNatClampNeg = n) (hb : n * componentBytes .byte ≤ 536870912) (hlen : h.1.length + 1 ≤ 1000000) (hk1 : k.1 + 1 ≤ K.1) (hk2 : k.2 + n ≤ K.2) {b : Nat} (hb0 : h.1.length = b) (kk : V M K RET (pc + 2) lo (.ref b :: st) (mj_push h (12, n, [])) (k.1 + 1, k.2 + n)) : V M K RET pc lo (.int x :: st) h k := by
  subst hb0
  intro D ca A0 sa p l e s m args below meth c Q C hQ H locs ls hR hS hl
  refine va_newaK (atype := .byte) C.1 C.2.1 (C.2.2.2.2.2.1 _ hw) rfl hd rfl hx hn hb hk1 hk2 hR.1 fun H1 cA e1 z1 o1 hAr hNm => ?_
  obtain rfl := mj_arr (ty := .byte) (j := 2) C.2.2.2.2.2.2.2.1.1 rfl hNm
  have hq : ∀ q : Nat, q < H.size → H1[q]? = H[q]? := fun q h => o1 q (by rw [← hR.1]; exact h)
  have hz : H1.size = H.size + 1 := by rw [z1, hR.1]
  have k2 := kk D ca A0 sa p l e s m args below meth c Q C hQ H1 locs ls (hR.push hlen e1 hz hq) (mj_S.push hS hz hq) hl
  rw [List.map_cons, show mj_v A0 sa (.ref h.1.length) = .ref (A0 + h.1.length) from congrArg Value.ref (mj_ad_lo (by omega))] at k2
  exact k2
theorem V.newP {M : mjM} {K : Nat × Nat} {RET : Option Value → mjH → Prop} {pc : Nat} {lo : List (Nat × Value)} {st : List Value} {h : mjH} {k : Nat × Nat} {n idx : Nat} {x : Int32} (hd : decode (mj_b M) pc = .ok (.anewarray idx, 3)) (hw : Cond.classLink (mj_y M).cls idx "PolyDesk$Poly" ∈ mj_W) (hx : ¬ x < 0) (hn : x.toNatClampNeg = n) (hb : n * 4 ≤ 536870912) (hlen : h.1.length + 1 ≤ 1000000) (hk1 : k.1 + 1 ≤ K.1) (hk2 : k.2 + n ≤ K.2) {b : Nat} (hb0 : h.1.length = b) (kk : V M K RET (pc + 3) lo (.ref b :: st) (mj_push h (13, n, List.replicate n none)) (k.1 + 1, k.2 + n)) : V M K RET pc lo (.int x :: st) h k := by
  subst hb0
  subst hn
  intro D ca A0 sa p l e s m args below meth c Q C hQ H locs ls hR hS hl
  refine W.anew C.1 C.2.1 C.2.2.2.2.1 (C.2.2.2.2.2.1 _ hw) (va_AO.use C.2.2.2.2.2.2.2.1.2.2.1) rfl hd rfl hx hb hk1 hk2 fun cA kA comp f1 f2 f3 f4 => ?_
  obtain rfl := mj_arr (ty := .object "PolyDesk$Poly") (j := 3) C.2.2.2.2.2.2.2.1.1 rfl f1
  generalize hH1 : H.push ({ cls := ca 13, slots := Array.replicate x.toNatClampNeg .null, vm := .none } : Cell) = H1
  have hz : H1.size = H.size + 1 := by rw [← hH1, Array.size_push]
  have e1 : H1[A0 + h.1.length]? = some (vp_cell (ca 13) (x.toNatClampNeg, .inr (.inr (.inr (.inr (mj_qf A0 sa (List.replicate x.toNatClampNeg none))))))) := by
    have e0 : H1[H.size]? = some (arrV (ca 13) x.toNatClampNeg (fun _ => .null)) := by rw [← hH1, Array.getElem?_push_size, ← arrV_new]
    rw [← hR.1, e0, vp_cell_q]
    congr 2
    funext i
    unfold mj_qf
    have hn : (List.replicate x.toNatClampNeg (none : Option Nat)).getD i none = none := by
      rw [List.getD_eq_getElem?_getD, List.getElem?_replicate]
      split <;> rfl
    rw [hn]
    rfl
  have hq : ∀ q : Nat, q < H.size → H1[q]? = H[q]? := fun q hq => by rw [← hH1, Array.getElem?_push, if_neg (Nat.ne_of_lt hq)]
  have k2 := kk D ca A0 sa p l e s m args below meth c Q C hQ H1 locs ls (hR.push hlen e1 hz hq) (mj_S.push hS hz hq) hl
  rw [List.map_cons, show mj_v A0 sa (.ref h.1.length) = .ref H.size from congrArg Value.ref ((mj_ad_lo (by omega)).trans hR.1.symm)] at k2
  exact k2
theorem V.newS {M : mjM} {K : Nat × Nat} {RET : Option Value → mjH → Prop} {pc : Nat} {lo : List (Nat × Value)} {st : List Value} {h : mjH} {k : Nat × Nat} {n idx : Nat} {x : Int32} (hd : decode (mj_b M) pc = .ok (.anewarray idx, 3)) (hw : Cond.classLink (mj_y M).cls idx "PolyDesk$Slot" ∈ mj_W) (hx : ¬ x < 0) (hn : x.toNatClampNeg = n) (hb : n * 4 ≤ 536870912) (hlen : h.1.length + 1 ≤ 1000000) (hk1 : k.1 + 1 ≤ K.1) (hk2 : k.2 + n ≤ K.2) {b : Nat} (hb0 : h.1.length = b) (kk : V M K RET (pc + 3) lo (.ref b :: st) (mj_push h (14, n, List.replicate n none)) (k.1 + 1, k.2 + n)) : V M K RET pc lo (.int x :: st) h k := by
  subst hb0
  subst hn
  intro D ca A0 sa p l e s m args below meth c Q C hQ H locs ls hR hS hl
  refine W.anew C.1 C.2.1 C.2.2.2.2.1 (C.2.2.2.2.2.1 _ hw) (va_AO.use C.2.2.2.2.2.2.2.1.2.2.2.1) rfl hd rfl hx hb hk1 hk2 fun cA kA comp f1 f2 f3 f4 => ?_
  obtain rfl := mj_arr (ty := .object "PolyDesk$Slot") (j := 4) C.2.2.2.2.2.2.2.1.1 rfl f1
  generalize hH1 : H.push ({ cls := ca 14, slots := Array.replicate x.toNatClampNeg .null, vm := .none } : Cell) = H1
  have hz : H1.size = H.size + 1 := by rw [← hH1, Array.size_push]
  have e1 : H1[A0 + h.1.length]? = some (vp_cell (ca 14) (x.toNatClampNeg, .inr (.inr (.inr (.inr (mj_qf A0 sa (List.replicate x.toNatClampNeg none))))))) := by
    have e0 : H1[H.size]? = some (arrV (ca 14) x.toNatClampNeg (fun _ => .null)) := by rw [← hH1, Array.getElem?_push_size, ← arrV_new]
    rw [← hR.1, e0, vp_cell_q]
    congr 2
    funext i
    unfold mj_qf
    have hn : (List.replicate x.toNatClampNeg (none : Option Nat)).getD i none = none := by
      rw [List.getD_eq_getElem?_getD, List.getElem?_replicate]
      split <;> rfl
    rw [hn]
    rfl
  have hq : ∀ q : Nat, q < H.size → H1[q]? = H[q]? := fun q hq => by rw [← hH1, Array.getElem?_push, if_neg (Nat.ne_of_lt hq)]
  have k2 := kk D ca A0 sa p l e s m args below meth c Q C hQ H1 locs ls (hR.push hlen e1 hz hq) (mj_S.push hS hz hq) hl
  rw [List.map_cons, show mj_v A0 sa (.ref h.1.length) = .ref H.size from congrArg Value.ref ((mj_ad_lo (by omega)).trans hR.1.symm)] at k2
  exact k2
theorem V.aastP {M : mjM} {K : Nat × Nat} {RET : Option Value → mjH → Prop} {pc : Nat} {lo : List (Nat × Value)} {st : List Value} {h : mjH} {k : Nat × Nat} {a b n nb : Nat} {rs rb : List (Option Nat)} {i : Int32} (hd : decode (mj_b M) pc = .ok (.aastore, 1)) (hs : h.1[a]? = some (13, n, rs)) (hb : h.1[b]? = some (5, nb, rb)) (hrs : n ≤ rs.length) (hin : vp_in i n) (kk : V M K RET (pc + 1) lo st (h.1.set a (13, n, rs.set i.toNatClampNeg (some b)), h.2.1, h.2.2) k) : V M K RET pc lo (.ref b :: .int i :: .ref a :: st) h k := by
  intro D ca A0 sa p l e s m args below meth c Q C hQ H locs ls hR hS hl
  have hK := C.2.2.2.2.2.2.2.1.1
  have hat : H[mj_ad A0 sa a]? = some (vp_cell (ca 13) (n, .inr (.inr (.inr (.inr (mj_qf A0 sa rs)))))) := hR.one hs 0 _ rfl
  have hlt : i.toNatClampNeg < n := Nat.not_le.mp fun q => hin (Or.inr q)
  have h0 : ¬ i < 0 := fun q => hin (Or.inl q)
  have hal := (List.getElem?_eq_some_iff.mp hs).1
  have hb1 := hR.one hb 0 _ rfl
  rw [mj_e_obj (by decide)] at hb1
  obtain ⟨r', hr', cellV, g1, g2, g3, -⟩ := hb1
  have hcls := (hK.1 5 _ rfl).2
  obtain ⟨kA, comp, k1, k2, k3, -⟩ := (hK.2 3 _ rfl).2
  have hcomp : comp = D.1 5 := Option.some.inj (k3.symm.trans hcls.1)
  subst hcomp
  obtain ⟨kC, hkC, -⟩ := hcls.2
  refine W.aast C.1 C.2.1 hat (fun q h => by cases h) (fun h => by cases h) k1 k2 rfl hkC ⟨h0, by show _ < (arrV _ _ _).slots.size; rw [arrV_size]; exact hlt⟩ g1 (fun q h => by rw [g3] at h; cases h) (by rw [g2]; exact hkC) (by rw [g2]; exact va_assign hcls) rfl rfl hd fun H1 e1 hz hq => ?_
  refine kk D ca A0 sa p l e s m args below meth c Q C hQ H1 _ ls (hR.set (d' := (13, n, rs.set i.toNatClampNeg (some b))) hs (by simp [hal]) (by simp) (fun b hb => ⟨by simp [Ne.symm hb], rfl, rfl⟩) ?_ hz hq) (mj_S.put hS (hR.lt hs) hz hq) hl
  show H1[mj_ad A0 sa a]? = some (vp_cell (ca 13) (n, .inr (.inr (.inr (.inr (mj_qf A0 sa (rs.set i.toNatClampNeg (some b))))))))
  rw [e1, mj_updQ]
  congr 3
  refine congrArg _ (congrArg _ (congrArg _ (congrArg _ ?_)))
  funext j
  unfold mj_qf
  by_cases hj : j = i.toNatClampNeg
  · have h1 : i.toNatClampNeg < rs.length := by omega
    simp [hj, h1]
  · simp [hj, Ne.symm hj]
theorem V.aastS {M : mjM} {K : Nat × Nat} {RET : Option Value → mjH → Prop} {pc : Nat} {lo : List (Nat × Value)} {st : List Value} {h : mjH} {k : Nat × Nat} {a b n nb : Nat} {rs rb : List (Option Nat)} {i : Int32} (hd : decode (mj_b M) pc = .ok (.aastore, 1)) (hs : h.1[a]? = some (14, n, rs)) (hb : h.1[b]? = some (7, nb, rb)) (hrs : n ≤ rs.length) (hin : vp_in i n) (kk : V M K RET (pc + 1) lo st (h.1.set a (14, n, rs.set i.toNatClampNeg (some b)), h.2.1, h.2.2) k) : V M K RET pc lo (.ref b :: .int i :: .ref a :: st) h k := by
  intro D ca A0 sa p l e s m args below meth c Q C hQ H locs ls hR hS hl
  have hK := C.2.2.2.2.2.2.2.1.1
  have hat : H[mj_ad A0 sa a]? = some (vp_cell (ca 14) (n, .inr (.inr (.inr (.inr (mj_qf A0 sa rs)))))) := hR.one hs 0 _ rfl
  have hlt : i.toNatClampNeg < n := Nat.not_le.mp fun q => hin (Or.inr q)
  have h0 : ¬ i < 0 := fun q => hin (Or.inl q)
  have hal := (List.getElem?_eq_some_iff.mp hs).1
  have hb1 := hR.one hb 0 _ rfl
  rw [mj_e_obj (by decide)] at hb1
  obtain ⟨r', hr', cellV, g1, g2, g3, -⟩ := hb1
  have hcls := (hK.1 7 _ rfl).2
  obtain ⟨kA, comp, k1, k2, k3, -⟩ := (hK.2 4 _ rfl).2
  have hcomp : comp = D.1 7 := Option.some.inj (k3.symm.trans hcls.1)
  subst hcomp
  obtain ⟨kC, hkC, -⟩ := hcls.2
  refine W.aast C.1 C.2.1 hat (fun q h => by cases h) (fun h => by cases h) k1 k2 rfl hkC ⟨h0, by show _ < (arrV _ _ _).slots.size; rw [arrV_size]; exact hlt⟩ g1 (fun q h => by rw [g3] at h; cases h) (by rw [g2]; exact hkC) (by rw [g2]; exact va_assign hcls) rfl rfl hd fun H1 e1 hz hq => ?_
  refine kk D ca A0 sa p l e s m args below meth c Q C hQ H1 _ ls (hR.set (d' := (14, n, rs.set i.toNatClampNeg (some b))) hs (by simp [hal]) (by simp) (fun b hb => ⟨by simp [Ne.symm hb], rfl, rfl⟩) ?_ hz hq) (mj_S.put hS (hR.lt hs) hz hq) hl
  show H1[mj_ad A0 sa a]? = some (vp_cell (ca 14) (n, .inr (.inr (.inr (.inr (mj_qf A0 sa (rs.set i.toNatClampNeg (some b))))))))
  rw [e1, mj_updQ]
  congr 3
  refine congrArg _ (congrArg _ (congrArg _ (congrArg _ ?_)))
  funext j
  unfold mj_qf
  by_cases hj : j = i.toNatClampNeg
  · have h1 : i.toNatClampNeg < rs.length := by omega
    simp [hj, h1]
  · simp [hj, Ne.symm hj]
theorem V.oini {M : mjM} {K : Nat × Nat} {RET : Option Value → mjH → Prop} {pc : Nat} {lo : List (Nat × Value)} {st : List Value} {h : mjH} {k : Nat × Nat} {idx a : Nat} (hd : decode (mj_b M) pc = .ok (.invokespecial idx, 3)) (hw1 : Cond.methodLink (mj_y M).cls idx Lib.objectInit ∈ mj_W) (hw2 : Cond.instanceMethod Lib.objectInit ∈ mj_W) (hw3 : Cond.code Lib.objectInit ⟨#[0xb1]⟩ 1 none ∈ mj_W) (hf : 1 ≤ mj_f M) (hcat : (st.map Value.category).sum + 12 ≤ mj_l M) (kk : V M K RET (pc + 3) lo st h k) : V M K RET pc lo (.ref a :: st) h k := by
  intro D ca A0 sa p l e s m args below meth c Q C hQ H locs ls hR hS hl
  have hw := C.2.2.2.2.2.1
  have hc2 : ((st.map (mj_v A0 sa)).map fun v => v.category) = st.map Value.category := by
    rw [List.map_map]
    exact List.map_congr_left (fun v _ => mj_cat v)
  exact W.objInit C.1 C.2.1 C.2.2.2.2.1 (hw _ hw1) (hw _ hw2) (hw _ hw3) rfl (hl.1.trans C.2.2.1.symm) rfl hd hf (by rw [hc2]; show _ ≤ mj_l M; simpa [JFrame.monitorRoom] using hcat) (kk D ca A0 sa p l e s m args below meth c Q C hQ H locs ls hR hS hl)
def mj_ok (N : mjM) : Prop := Cond.code (mj_y N) (mj_b N) (mj_n N) (mj_r N) ∈ mj_W ∧ Cond.initialized (mj_y N).cls ∈ mj_W ∧ (mj_y N).cls ≠ "java/lang/invoke/MethodHandle" ∧ (mj_y N).cls ≠ "java/lang/invoke/VarHandle" ∧ (parseMethodDescriptor (mj_y N).desc).map (fun d => d.parameters.length) = some (mj_p N)
def mj_okV (N : mjM) : Prop := Cond.instanceMethod (mj_y N) ∈ mj_W ∧ Cond.selects (mj_y N).cls (mj_y N) (mj_y N) ∈ mj_W
theorem mj_good (N : mjM) (h : mj_ok N) : GoodIn mj_W (mj_ws N) := by
  have key : ∀ w, w ∈ mj_W → w ∈ mj_W ∧ ((w.onTables && w.keeps) = true ∨ ∃ ty, w = .arrayClass ty) := fun w hw => ⟨hw, good_of_word (List.mem_filter.mp hw).2⟩
  intro w hw
  rcases List.mem_cons.mp hw with rfl | hw
  · exact key _ h.1
  · exact key w hw
theorem mj_X.at {D : va_G} {ca : Nat → ClassId} {A0 : Nat} {sa : Nat → Nat} {s U : State} {H : Heap} {locs : List Loc} (hX : mj_X D ca A0 sa s s.heap) (hS : va_S (mj_A A0) s.heap H locs) (hU : U.heap = H) (hW : s.WarmedH U.vm) : mj_X D ca A0 sa U U.heap := by
  rw [hU]
  exact (hX.kept hS.1 hS.2.1).moved hW
theorem V.after {M : mjM} {K K1 k : Nat × Nat} {RET RET1 : Option Value → mjH → Prop} {pc : Nat} {lo : List (Nat × Value)} {rest : List Value} {D : va_G} {ca : Nat → ClassId} {A0 : Nat} {sa : Nat → Nat} {p : Program} {l : Launch} {e : Env} {s : State} {m : MethodId} {args : Array Value} {below : List Frame} {meth : Method} {c : Code} {Q : State → Prop} {H : Heap} {locs : List Loc} {ls : Array Slot} {st0 : List Value} {a1 : Array Value}
    (hr : va_Run p l e (mj_rm M K) s m args below meth c H locs k.1 k.2 K1.1 K1.2 (F0 m pc ls st0) (rest.map (mj_v A0 sa)) (mj_Qc D ca A0 sa RET1 a1) (mj_A A0)) (C : mj_C D ca A0 sa M p s m args meth c)
    (hQ : ∀ (pc' : Nat) (ls' : Array Slot) (v : Option Value) (h' : mjH) (H' : Heap) (locs' : List Loc), mj_E M pc' v → RET v h' → mj_R D ca A0 sa h' H' → va_S (mj_A A0) s.heap H' locs' → W p l e (mj_rm M K) s m args below meth c H' locs' K.1 K.2 Q (F0 m pc' ls' (v.map (mj_v A0 sa)).toList))
    (hS : va_S (mj_A A0) s.heap H locs) (hl : lv_has ls (mj_n M) (mj_lo A0 sa lo)) (kk : ∀ (v : Option Value) (h' : mjH), RET1 v h' → V M K RET (pc + 3) lo (v.toList ++ rest) h' (k.1 + K1.1, k.2 + K1.2)) : W p l e (mj_rm M K) s m args below meth c H locs k.1 k.2 Q (F0 m pc ls st0) := by
  intro T hT X
  obtain ⟨v, st₀, t, T', L, h0, X', hL, e1, e2, ⟨⟨v1, h1, hv, hR1, hRt⟩, hz, hk⟩, st⟩ := hr T hT X
  cases hv
  rw [h0] at hz hk
  have k2 := kk v1 h1 hR1 D ca A0 sa p l e s m args below meth c Q C hQ T'.heap (locs ++ L) ls (by rw [e1]; exact hRt) ⟨Nat.le_trans hS.1 (by rw [e1]; exact hz), fun q h1 h2 => by rw [e1, hk q (Nat.lt_of_lt_of_le h1 hS.1) h2]; exact hS.2.1 q h1 h2, fun q hq => (List.mem_append.mp hq).elim (hS.2.2 q) (fun h => hL q h)⟩ hl
  have hst : (v1.toList ++ rest).map (mj_v A0 sa) = (v1.map (mj_v A0 sa)).toList ++ rest.map (mj_v A0 sa) := by cases v1 <;> rfl
  rw [hst] at k2
  obtain ⟨t2, a2, b2⟩ := k2 T' rfl X'
  exact ⟨t2, st t2 a2, b2⟩
theorem mj_cats {A0 : Nat} {sa : Nat → Nat} {st : List Value} (h : (st.map Value.category).sum ≤ 8) : ((st.map (mj_v A0 sa)).map fun v => v.category).sum ≤ 8 := by
  have hc2 : ((st.map (mj_v A0 sa)).map fun v => v.category) = st.map Value.category := by
    rw [List.map_map]
    exact List.map_congr_left (fun v _ => mj_cat v)
  rw [hc2]; exact h
theorem V.callV {M : mjM} {K : Nat × Nat} {RET : Option Value → mjH → Prop} {pc : Nat} {lo : List (Nat × Value)} {st : List Value} {h : mjH} {k : Nat × Nat} {N : mjM} {K1 : Nat × Nat} {RET1 : Option Value → mjH → Prop} {idx a : Nat} {d : mjD} {as : List Value} {st0 : List Value} (hd : decode (mj_b M) pc = .ok (.invokevirtual idx, 3)) (hln : Cond.methodLink (mj_y M).cls idx (mj_y N) ∈ mj_W) (hN : mj_ok N) (hV : mj_okV N) (hf : mj_f N + 1 ≤ mj_f M ∧ 8 + (mj_n N + 11) + mj_l N ≤ mj_l M) (hs : h.1[a]? = some d) (hcl : (vwCl[d.1]?).map (fun q => q.1) = some (mj_y N).cls) (hst : st0 = as.reverse ++ .ref a :: st) (hlen : as.length = mj_p N) (hcat : (st.map Value.category).sum ≤ 8) (hk : k.1 + K1.1 ≤ K.1 ∧ k.2 + K1.2 ≤ K.2)
    (hc : CT N K1 (.ref a :: as) h RET1) (kk : ∀ (v : Option Value) (h' : mjH), RET1 v h' → V M K RET (pc + 3) lo (v.toList ++ st) h' (k.1 + K1.1, k.2 + K1.2)) : V M K RET pc lo st0 h k := by
  subst hst
  intro D ca A0 sa p l e s m args below meth c Q C hQ H locs ls hR hS hl
  have hw := C.2.2.2.2.2.1
  have hX := C.2.2.2.2.2.2.2.1
  have hP := hR.one hs
  obtain ⟨⟨Cn, T, n⟩, hc1, hc2⟩ := Option.map_eq_some_iff.mp hcl
  obtain ⟨d1, d2, d3⟩ := d
  rw [mj_e_obj (mj_ci hc1)] at hP
  have hrec := va_recv hX.1 hP hc1 (q0 := 0) rfl
  have hc2' : Cn = (mj_y N).cls := hc2
  subst hc2'
  refine V.after (va_runV (As := as.map (mj_v A0 sa)) (rest := st.map (mj_v A0 sa)) (n := mj_p N) ⟨C.1, C.2.1, C.2.2.1, C.2.2.2.2.1, hw⟩ (hc D ca A0 sa l) ⟨callB_of (mj_p N) hw (mj_good N hN) rfl rfl rfl (hw _ hN.2.1) (hw _ hln) ⟨hN.2.2.1, hN.2.2.2.1, hN.2.2.2.2⟩ hf, hw _ hV.1, hw _ hV.2⟩ ⟨mj_blind, hrec, fun U hU hW => ⟨rfl, by rw [hU]; exact hR, hX.at hS hU hW⟩⟩ rfl (by simpa using hlen) hl.1 (by simp [List.map_append, List.map_reverse, mj_v]) (lv_room (mj_cats hcat)) hd hk) C hQ hS hl kk
theorem V.callS {M : mjM} {K : Nat × Nat} {RET : Option Value → mjH → Prop} {pc : Nat} {lo : List (Nat × Value)} {st : List Value} {h : mjH} {k : Nat × Nat} {N : mjM} {K1 : Nat × Nat} {RET1 : Option Value → mjH → Prop} {idx : Nat} {as : List Value} {st0 : List Value} (hd : decode (mj_b M) pc = .ok (.invokestatic idx, 3)) (hln : Cond.methodLink (mj_y M).cls idx (mj_y N) ∈ mj_W) (hN : mj_ok N) (hV : Cond.static (mj_y N) ∈ mj_W) (hf : mj_f N + 1 ≤ mj_f M ∧ 8 + (mj_n N + 11) + mj_l N ≤ mj_l M) (hst : st0 = as.reverse ++ st) (hlen : as.length = mj_p N) (hcat : (st.map Value.category).sum ≤ 8) (hk : k.1 + K1.1 ≤ K.1 ∧ k.2 + K1.2 ≤ K.2)
    (hc : CT N K1 as h RET1) (kk : ∀ (v : Option Value) (h' : mjH), RET1 v h' → V M K RET (pc + 3) lo (v.toList ++ st) h' (k.1 + K1.1, k.2 + K1.2)) : V M K RET pc lo st0 h k := by
  subst hst
  intro D ca A0 sa p l e s m args below meth c Q C hQ H locs ls hR hS hl
  have hw := C.2.2.2.2.2.1
  have hX := C.2.2.2.2.2.2.2.1
  refine V.after (va_runS (As := as.map (mj_v A0 sa)) (rest := st.map (mj_v A0 sa)) (n := mj_p N) ⟨C.1, C.2.1, C.2.2.1, C.2.2.2.2.1, hw⟩ (hc D ca A0 sa l) ⟨callB_of (mj_p N) hw (mj_good N hN) rfl rfl rfl (hw _ hN.2.1) (hw _ hln) ⟨hN.2.2.1, hN.2.2.2.1, hN.2.2.2.2⟩ hf, hw _ hV⟩ ⟨mj_blind, fun U hU hW => ⟨rfl, by rw [hU]; exact hR, hX.at hS hU hW⟩⟩ rfl (by simpa using hlen) hl.1 (by simp [List.map_append, List.map_reverse]) (lv_room (mj_cats hcat)) hd hk) C hQ hS hl kk
theorem V.callI {M : mjM} {K : Nat × Nat} {RET : Option Value → mjH → Prop} {pc : Nat} {lo : List (Nat × Value)} {st : List Value} {h : mjH} {k : Nat × Nat} {N : mjM} {K1 : Nat × Nat} {RET1 : Option Value → mjH → Prop} {idx a : Nat} {as : List Value} {st0 : List Value} (hd : decode (mj_b M) pc = .ok (.invokespecial idx, 3)) (hln : Cond.methodLink (mj_y M).cls idx (mj_y N) ∈ mj_W ∨ ∃ q ∈ mj_NWm, mj_nm q = Cond.methodLinkNest (mj_y M).cls idx (mj_y N) "PolyDesk") (hN : mj_ok N) (hV : Cond.instanceMethod (mj_y N) ∈ mj_W) (hnm : (mj_y N).name = "<init>") (hrt : mj_r N = none) (hf : mj_f N + 1 ≤ mj_f M ∧ 8 + (mj_n N + 11) + mj_l N ≤ mj_l M) (hst : st0 = as.reverse ++ .ref a :: st) (hlen : as.length = mj_p N) (hcat : (st.map Value.category).sum ≤ 8) (hk : k.1 + K1.1 ≤ K.1 ∧ k.2 + K1.2 ≤ K.2)
    (hc : CT N K1 (.ref a :: as) h RET1) (kk : ∀ (v : Option Value) (h' : mjH), RET1 v h' → V M K RET (pc + 3) lo (v.toList ++ st) h' (k.1 + K1.1, k.2 + K1.2)) : V M K RET pc lo st0 h k := by
  subst hst
  intro D ca A0 sa p l e s m args below meth c Q C hQ H locs ls hR hS hl
  have hw := C.2.2.2.2.2.1
  have hX := C.2.2.2.2.2.2.2.1
  have hp : PreS s H (mj_Pc D ca A0 sa (.ref a :: as) h) (.ref (mj_ad A0 sa a) :: as.map (mj_v A0 sa)) := ⟨mj_blind, fun U hU hW => ⟨rfl, by rw [hU]; exact hR, hX.at hS hU hW⟩⟩
  have hG := mj_good N hN
  have hst2 : (as.reverse ++ .ref a :: st).map (mj_v A0 sa) = (as.map (mj_v A0 sa)).reverse ++ .ref (mj_ad A0 sa a) :: st.map (mj_v A0 sa) := by simp [List.map_append, List.map_reverse, mj_v]
  have hws : mj_ws N = Cond.code (mj_y N) (mj_b N) (mj_n N) none :: mj_W := by unfold mj_ws; rw [hrt]
  rcases hln with hln | ⟨q, hq, hln⟩
  · exact V.after (va_runI (As := as.map (mj_v A0 sa)) (rest := st.map (mj_v A0 sa)) (n := mj_p N) ⟨C.1, C.2.1, C.2.2.1, C.2.2.2.2.1, hw⟩ (hc D ca A0 sa l) ⟨callB_of (mj_p N) hw hG hws rfl rfl (hw _ hN.2.1) (hw _ hln) ⟨hN.2.2.1, hN.2.2.2.1, hN.2.2.2.2⟩ hf, hnm, hw _ hV⟩ hp rfl (by simpa using hlen) hl.1 hst2 (lv_room (mj_cats hcat)) hd hk) C hQ hS hl kk
  · have hx := hX.2.1.2 q hq
    rw [hln] at hx
    exact V.after (va_runIN (As := as.map (mj_v A0 sa)) (rest := st.map (mj_v A0 sa)) (n := mj_p N) ⟨C.1, C.2.1, C.2.2.1, C.2.2.2.2.1, hw⟩ (hc D ca A0 sa l) ⟨va_cnB (mj_p N) hw hG hws rfl rfl hx (hw _ hN.2.1) ⟨hN.2.2.1, hN.2.2.2.1, hN.2.2.2.2⟩ hf, hnm, hw _ hV⟩ hp rfl (by simpa using hlen) hl.1 hst2 (lv_room (mj_cats hcat)) hd hk) C hQ hS hl kk
end
