/-! ROWS OF THE SMALL MACHINE: fields, rows of numbers, cells, calls -/
section
set_option linter.unusedVariables false
def mj_up {α : Type} (I : Nat → Nat → α) (a k : Nat) (x : α) : Nat → Nat → α := fun b j => if b = a ∧ j = k then x else I b j
theorem mj_up_ne {α : Type} {I : Nat → Nat → α} {a k b : Nat} {x : α} (h : b ≠ a) : mj_up I a k x b = I b := by
  funext j
  simp [mj_up, h]
theorem mj_up_self {α : Type} {I : Nat → Nat → α} {a k : Nat} {x : α} : mj_up I a k x a = fun j => if j = k then x else I a j := by
  funext j
  simp [mj_up]
/-- a field of a class under a pool number of a class's file -/
def mj_F (own : String) (idx ci k : Nat) : Prop := ∃ (C : String) (T : u_T) (N : Nat), vwCl[ci]? = some (C, T, N) ∧ k < N ∧ (∀ w ∈ u_ws C T N, w ∈ mj_W) ∧ (∃ ty0 : Nat → FieldType, ∀ k, k < N → parseFieldDescriptor (T k).2.2.1 = some (ty0 k)) ∧ (∀ a, a < N → ∀ b, b < N → a ≠ b → (T a).2.1 ≠ (T b).2.1) ∧
  (Cond.fieldLink own idx (T k).1 (T k).2.1 (T k).2.2.1 ∈ mj_W ∨ ∃ q ∈ mj_NWf, mj_nf q = Cond.fieldLinkNest own idx (T k).1 (T k).2.1 (T k).2.2.1 "PolyDesk")
/-- .. which isn't final, of a type -/
def mj_P (own : String) (idx ci k : Nat) (ty : FieldType) : Prop := ∃ (C : String) (T : u_T) (N : Nat), vwCl[ci]? = some (C, T, N) ∧ k < N ∧ (T k).2.2.2 = false ∧ parseFieldDescriptor (T k).2.2.1 = some ty
/-- .. which is final, of a type, in the class's own text -/
def mj_Pf (own : String) (idx ci k : Nat) (ty : FieldType) : Prop := ∃ (C : String) (T : u_T) (N : Nat), vwCl[ci]? = some (C, T, N) ∧ k < N ∧ (T k).2.2.2 = true ∧ (T k).1 = own ∧ parseFieldDescriptor (T k).2.2.1 = some ty ∧ Cond.fieldLink own idx (T k).1 (T k).2.1 (T k).2.2.1 ∈ mj_W
theorem mj_ci {ci : Nat} {r : vw_C} (h : vwCl[ci]? = some r) : ci < 10 := (List.getElem?_eq_some_iff.mp h).1
theorem mj_fs {A0 : Nat} {sa : Nat → Nat} {d : mjD} {Ia : Nat → Int32} {La : Nat → Int64} {n k : Nat} {v : Value} (hk : k < n) (hv : mj_av d Ia La k = v) : ((List.range n).map (fun k => mj_v A0 sa (mj_av d Ia La k)))[k]? = some (mj_v A0 sa v) := by
  rw [List.getElem?_map, List.getElem?_range hk]
  simp [hv]
theorem V.getf {M : mjM} {K : Nat × Nat} {RET : Option Value → mjH → Prop} {pc : Nat} {lo : List (Nat × Value)} {st : List Value} {h : mjH} {k : Nat × Nat} {idx ci kf n a : Nat} {rs : List (Option Nat)} {v : Value} (hd : decode (mj_b M) pc = .ok (.getfield idx, 3)) (hF : mj_F (mj_y M).cls idx ci kf) (hs : h.1[a]? = some (ci, n, rs)) (hk : kf < n) (hv : mj_av (ci, n, rs) (h.2.1 a) (h.2.2 a) kf = v) (kk : V M K RET (pc + 3) lo (v :: st) h k) : V M K RET pc lo (.ref a :: st) h k := by
  intro D ca A0 sa p l e s m args below meth c Q C hQ H locs ls hR hS hl
  obtain ⟨Cn, T, N, hc, hkN, hin, -, -, hlink⟩ := hF
  have hP := hR.one hs
  rw [mj_e_obj (mj_ci hc)] at hP
  rcases hlink with hlink | ⟨q, hq, hlink⟩
  · exact va_get (Ts := mj_W) C.1 C.2.1 C.2.2.2.2.2.1 hin C.2.2.2.2.1 C.2.2.2.2.2.2.2.1.1 hP 0 rfl hc kf hkN (C.2.2.2.2.2.1 _ hlink) (fun _ z => z) (mj_fs hk hv) hd (kk D ca A0 sa p l e s m args below meth c Q C hQ H locs ls hR hS hl)
  · have hw := C.2.2.2.2.2.2.2.1.2.1.1 q hq
    rw [hlink] at hw
    exact va_getN (Ts := mj_W) C.1 C.2.1 C.2.2.2.2.2.1 hin C.2.2.2.2.1 C.2.2.2.2.2.2.2.1.1 hP 0 rfl hc kf hkN (va_Nw.use rfl hw) (fun _ z => z) (mj_fs hk hv) hd (kk D ca A0 sa p l e s m args below meth c Q C hQ H locs ls hR hS hl)
/-- the store of a field, over the machine: normal, of a nest mate, or final -/
theorem mj_putW {p : Program} {l : Launch} {e : Env} {R : Room} {s : State} {m : MethodId} {args : Array Value} {below : List Frame} {meth : Method} {c : Code} {H : Heap} {locs : List Loc} {cells slots : Nat} {Q : State → Prop} {cc : ByteArray} {pc : Nat} {ls : Array Slot} {rest : List Value} {D : va_G} {tys : List (ClassId × FieldType)} {a : Nat}
    (hexec : p.tables.exec = Jvm.exec) (hb : c.code = cc) {own : String} {idx ci k : Nat} {ty : FieldType} {v : Value} {fs : List Value} (hts : ∀ w ∈ mj_W, w.before args s = true) (hNW : mj_NW s) (hown : s.vm.findClass own = some m.cls) (hK : va_K D vwCl tys s) (hF : mj_F own idx ci k) (hP : mj_P own idx ci k ty ∨ (mj_Pf own idx ci k ty ∧ meth.name = "<init>"))
    (hat : va_at D vwCl (a, .inr (ci, fs)) H) (hn : narrow ty v = v) (hfit : fits ty v = true) (hl : k < fs.length) (hdg : decode cc pc = .ok (.putfield idx, 3))
    (kk : ∀ (H1 : Heap) (i : Nat), va_at D vwCl (a, .inr (ci, fs.set k v)) H1 → H1.size = H.size → (∀ q : Nat, q ≠ a → H1[q]? = H[q]?) → W p l e R s m args below meth c H1 (locs ++ [⟨a, i⟩]) cells slots Q (F0 m (pc + 3) ls rest)) : W p l e R s m args below meth c H locs cells slots Q (F0 m pc ls (v :: .ref a :: rest)) := by
  obtain ⟨C, T, N, hc, hk, hin, ⟨ty0, hty⟩, hnm, hlink⟩ := hF
  have hap := va_apart (own := own) hts hin ty0 hty hnm hK hc
  obtain ⟨r, h1, cell, q1, q2, q3, q4⟩ := hat
  have hr : r = (C, T, N) := Option.some.inj (h1.symm.trans hc)
  subst hr
  obtain ⟨hS, hfc, kC, hkC, hkind⟩ := hK.1 ci _ hc
  obtain ⟨cf, kf, fi, f, hi, hsl⟩ := hS k hk
  have hlay := hts _ (hin _ (u_in_lay hk))
  have hst := (u_facts hfc hkC (u_lays hts hin hk) hi).1
  have done : ∀ H' : Heap, H'[a]? = some (cell.setSlot f.slot v) → H'.size = H.size → (∀ q : Nat, q ≠ a → H'[q]? = H[q]?) → W p l e R s m args below meth c H' (locs ++ [⟨a, f.slot⟩]) cells slots Q (F0 m (pc + 3) ls rest) := fun H' e1 e2 e3 => by
    rw [hsl] at e1 ⊢
    exact kk H' _ ⟨_, hc, t_OB.to (V := updV (vp_V fs) k v) ⟨_, e1, q2, q3, t_set q4 hap hk v⟩ (fun j _ => vp_updV_set hl v j)⟩ e2 e3
  rcases hP with ⟨C', T', N', hc', -, hfin, hty'⟩ | ⟨⟨C', T', N', hc', -, hfin, hdecl, hty', hlink2⟩, hin2⟩
  · have he := Option.some.inj (hc.symm.trans hc')
    cases he
    unfold u_lay at hlay
    rw [if_neg (by rw [hfin]; decide)] at hlay
    have h6 := u_store hfc hkC hkind hlay hi hty' hn hfit
    rcases hlink with hlink | ⟨q, hq, hlink⟩
    · exact W.putK hexec hb (f := f) ⟨hown, hts _ hlink, ⟨_, _, _, hi⟩, hst⟩ (by rw [q2]; exact h6) q1 q3 (by rw [hsl]; exact k2_hasslot (q4 k hk)) rfl rfl hdg done
    · have hw := hNW.1 q hq
      rw [hlink] at hw
      exact va_WputK hexec hb (f := f) hown (va_Nw.use rfl hw) hi hst (by rw [q2]; exact h6) q1 q3 (by rw [hsl]; exact k2_hasslot (q4 k hk)) rfl rfl hdg done
  · have he := Option.some.inj (hc.symm.trans hc')
    cases he
    unfold u_lay at hlay
    rw [if_pos hfin] at hlay
    have hcf : m.cls = cf := by
      obtain ⟨_, _, c', _, _, _, -, -, hf', -, -, -, hown2, -⟩ := Cond.laysFinal_spec hlay
      have e1 : c' = cf := by have := hi.symm.trans hf'; simp at this; exact this.1.symm
      rw [hdecl] at hown2
      rw [← e1]; exact Option.some.inj (hown.symm.trans hown2)
    have h6 := u_fits hfc hkC hkind (Or.inr hlay) hi hty' hn hfit
    exact W.putFinK hexec hb hown (hts _ hlink2) hi hst hcf hin2 (by rw [q2]; exact h6) q1 q3 (by rw [hsl]; exact k2_hasslot (q4 k hk)) rfl rfl hdg done
/-- a heap in which one cell has changed -/
theorem mj_R.set {D : va_G} {ca : Nat → ClassId} {A0 : Nat} {sa : Nat → Nat} {h h' : mjH} {H H1 : Heap} {a : Nat} {d d' : mjD} (hR : mj_R D ca A0 sa h H) (hd : h.1[a]? = some d) (hd' : h'.1[a]? = some d') (hlen : h'.1.length = h.1.length) (ho : ∀ b, b ≠ a → h'.1[b]? = h.1[b]? ∧ h'.2.1 b = h.2.1 b ∧ h'.2.2 b = h.2.2 b)
    (hat : va_at D vwCl (mj_ad A0 sa a, mj_e ca A0 sa d' (h'.2.1 a) (h'.2.2 a)) H1) (hz : H1.size = H.size) (hq : ∀ q : Nat, q ≠ mj_ad A0 sa a → H1[q]? = H[q]?) : mj_R D ca A0 sa h' H1 := by
  rw [mj_ad_lo (hR.lt hd)] at hat hq
  refine ⟨by rw [hz, hlen]; exact hR.1, by rw [hlen]; exact hR.2.1, fun b e hb => ?_⟩
  by_cases hba : b = a
  · subst hba
    cases hd'.symm.trans hb
    exact hat
  · obtain ⟨o1, o2, o3⟩ := ho b hba
    rw [o2, o3]
    exact (hR.2.2 b e (o1 ▸ hb)).kept (hq _ (by show A0 + b ≠ A0 + a; omega))
theorem mj_S.put {A0 : Nat} {sa : Nat → Nat} {H0 H H1 : Heap} {locs : List Loc} {a i : Nat} (hS : va_S (mj_A A0) H0 H locs) (ha : a < 1000000) (hz : H1.size = H.size) (hq : ∀ q : Nat, q ≠ mj_ad A0 sa a → H1[q]? = H[q]?) : va_S (mj_A A0) H0 H1 (locs ++ [⟨mj_ad A0 sa a, i⟩]) :=
  hS.put hz hq (by rw [mj_ad_lo ha]; show A0 ≤ A0 + a; omega)
theorem mj_map_set {A0 : Nat} {sa : Nat → Nat} {d d' : mjD} {Ia Ib : Nat → Int32} {La Lb : Nat → Int64} {n k : Nat} {v : Value} (hk : mj_av d' Ib Lb k = v) (ho : ∀ j, j ≠ k → mj_av d' Ib Lb j = mj_av d Ia La j) : ((List.range n).map (fun k => mj_v A0 sa (mj_av d Ia La k))).set k (mj_v A0 sa v) = (List.range n).map (fun k => mj_v A0 sa (mj_av d' Ib Lb k)) := by
  apply List.ext_getElem?
  intro j
  rw [List.getElem?_set, List.getElem?_map, List.getElem?_map]
  by_cases hj : k = j
  · subst hj
    rw [if_pos rfl]
    by_cases hn : k < n
    · simp [hn, hk]
    · simp [hn]
  · rw [if_neg hj]
    by_cases hn : j < n
    · rw [List.getElem?_range hn]
      simp [ho j (Ne.symm hj)]
    · simp [hn]
theorem mj_av_i {d : mjD} {Ia Ib : Nat → Int32} {La : Nat → Int64} {j : Nat} (h : Ib j = Ia j) : mj_av d Ib La j = mj_av d Ia La j := by unfold mj_av; split <;> simp [h]
theorem mj_av_l {d : mjD} {Ia : Nat → Int32} {La Lb : Nat → Int64} {j : Nat} (h : Lb j = La j) : mj_av d Ia Lb j = mj_av d Ia La j := by unfold mj_av; split <;> simp [h]
theorem V.puti {M : mjM} {K : Nat × Nat} {RET : Option Value → mjH → Prop} {pc : Nat} {lo : List (Nat × Value)} {st : List Value} {h : mjH} {k : Nat × Nat} {idx ci kf n a : Nat} {rs : List (Option Nat)} {x : Int32} {ty : FieldType} (hd : decode (mj_b M) pc = .ok (.putfield idx, 3)) (hF : mj_F (mj_y M).cls idx ci kf) (hP : mj_P (mj_y M).cls idx ci kf ty) (hkd : mj_kind ci kf = 0 ∨ mj_kind ci kf = 3) (hs : h.1[a]? = some (ci, n, rs)) (hk : kf < n) (hn : narrow ty (.int x) = .int x) (hfit : fits ty (.int x) = true)
    (kk : V M K RET (pc + 3) lo st (h.1, mj_up h.2.1 a kf x, h.2.2) k) : V M K RET pc lo (.int x :: .ref a :: st) h k := by
  intro D ca A0 sa p l e s m args below meth c Q C hQ H locs ls hR hS hl
  have hat := hR.one hs 0 _ rfl
  obtain ⟨Cn, T, N, hc, -⟩ := id hF
  have hci := mj_ci hc
  rw [mj_e_obj hci] at hat
  refine mj_putW (ty := ty) (a := mj_ad A0 sa a) C.1 C.2.1 C.2.2.2.2.2.1 C.2.2.2.2.2.2.2.1.2.1 C.2.2.2.2.1 C.2.2.2.2.2.2.2.1.1 hF (Or.inl hP) hat hn hfit (by simpa using hk) hd (fun H1 i hat1 hz hq => ?_)
  refine kk D ca A0 sa p l e s m args below meth c Q C hQ H1 _ ls (hR.set hs hs rfl (fun b hb => ⟨rfl, mj_up_ne hb, rfl⟩) ?_ hz hq) (mj_S.put hS (hR.lt hs) hz hq) hl
  rw [mj_e_obj hci]
  have he := mj_map_set (A0 := A0) (sa := sa) (d := (ci, n, rs)) (d' := (ci, n, rs)) (Ia := h.2.1 a) (Ib := mj_up h.2.1 a kf x a) (La := h.2.2 a) (Lb := h.2.2 a) (n := n) (k := kf) (v := .int x) (by
    rw [mj_up_self]
    rcases hkd with hkd | hkd <;> simp [mj_av, hkd]) (fun j hj => mj_av_i (by rw [mj_up_self]; simp [hj]))
  rw [← he]
  exact hat1
theorem V.putl {M : mjM} {K : Nat × Nat} {RET : Option Value → mjH → Prop} {pc : Nat} {lo : List (Nat × Value)} {st : List Value} {h : mjH} {k : Nat × Nat} {idx ci kf n a : Nat} {rs : List (Option Nat)} {x : Int64} (hd : decode (mj_b M) pc = .ok (.putfield idx, 3)) (hF : mj_F (mj_y M).cls idx ci kf) (hP : mj_P (mj_y M).cls idx ci kf .long) (hkd : mj_kind ci kf = 1) (hs : h.1[a]? = some (ci, n, rs)) (hk : kf < n)
    (kk : V M K RET (pc + 3) lo st (h.1, h.2.1, mj_up h.2.2 a kf x) k) : V M K RET pc lo (.long x :: .ref a :: st) h k := by
  intro D ca A0 sa p l e s m args below meth c Q C hQ H locs ls hR hS hl
  have hat := hR.one hs 0 _ rfl
  obtain ⟨Cn, T, N, hc, -⟩ := id hF
  have hci := mj_ci hc
  rw [mj_e_obj hci] at hat
  refine mj_putW (ty := .long) (a := mj_ad A0 sa a) C.1 C.2.1 C.2.2.2.2.2.1 C.2.2.2.2.2.2.2.1.2.1 C.2.2.2.2.1 C.2.2.2.2.2.2.2.1.1 hF (Or.inl hP) hat rfl rfl (by simpa using hk) hd (fun H1 i hat1 hz hq => ?_)
  refine kk D ca A0 sa p l e s m args below meth c Q C hQ H1 _ ls (hR.set hs hs rfl (fun b hb => ⟨rfl, rfl, mj_up_ne hb⟩) ?_ hz hq) (mj_S.put hS (hR.lt hs) hz hq) hl
  rw [mj_e_obj hci]
  have he := mj_map_set (A0 := A0) (sa := sa) (d := (ci, n, rs)) (d' := (ci, n, rs)) (Ia := h.2.1 a) (Ib := h.2.1 a) (La := h.2.2 a) (Lb := mj_up h.2.2 a kf x a) (n := n) (k := kf) (v := .long x) (by
    rw [mj_up_self]
    simp [mj_av, hkd]) (fun j hj => mj_av_l (by rw [mj_up_self]; simp [hj]))
  rw [← he]
  exact hat1
/-- places of references -/
def mj_sr (rs : List (Option Nat)) (n k v : Nat) : List (Option Nat) := (List.range n).map (fun i => if i = k then some v else rs.getD i none)
theorem mj_sr_at {rs : List (Option Nat)} {n k v j : Nat} (hk : k < n) : (mj_sr rs n k v).getD j none = if j = k then some v else if j < n then rs.getD j none else none := by
  unfold mj_sr
  rw [List.getD_eq_getElem?_getD, List.getElem?_map]
  by_cases hj : j < n
  · rw [List.getElem?_range hj]
    simp [hj]
  · have h1 : j ≠ k := by omega
    simp [hj, h1]
theorem V.putq {M : mjM} {K : Nat × Nat} {RET : Option Value → mjH → Prop} {pc : Nat} {lo : List (Nat × Value)} {st : List Value} {h : mjH} {k : Nat × Nat} {idx ci kf n a b : Nat} {rs : List (Option Nat)} {ty : FieldType} (hd : decode (mj_b M) pc = .ok (.putfield idx, 3)) (hF : mj_F (mj_y M).cls idx ci kf) (hP : mj_Pf (mj_y M).cls idx ci kf ty) (hin : (mj_y M).name = "<init>") (hkd : mj_kind ci kf = 2) (hs : h.1[a]? = some (ci, n, rs)) (hk : kf < n) (hrs : n ≤ rs.length) (hfit : ∀ x : Nat, narrow ty (.ref x) = .ref x ∧ fits ty (.ref x) = true)
    (kk : V M K RET (pc + 3) lo st (h.1.set a (ci, n, rs.set kf (some b)), h.2.1, h.2.2) k) : V M K RET pc lo (.ref b :: .ref a :: st) h k := by
  intro D ca A0 sa p l e s m args below meth c Q C hQ H locs ls hR hS hl
  have hat := hR.one hs 0 _ rfl
  obtain ⟨Cn, T, N, hc, -⟩ := id hF
  have hci := mj_ci hc
  rw [mj_e_obj hci] at hat
  have hal := (List.getElem?_eq_some_iff.mp hs).1
  refine mj_putW (ty := ty) (a := mj_ad A0 sa a) C.1 C.2.1 C.2.2.2.2.2.1 C.2.2.2.2.2.2.2.1.2.1 C.2.2.2.2.1 C.2.2.2.2.2.2.2.1.1 hF (Or.inr ⟨hP, C.2.2.2.2.2.2.2.2.1 hin⟩) hat (hfit _).1 (hfit _).2 (by simpa using hk) hd (fun H1 i hat1 hz hq => ?_)
  refine kk D ca A0 sa p l e s m args below meth c Q C hQ H1 _ ls (hR.set (d' := (ci, n, rs.set kf (some b))) hs (by simp [hal]) (by simp) (fun b hb => ⟨by simp [Ne.symm hb], rfl, rfl⟩) ?_ hz hq) (mj_S.put hS (hR.lt hs) hz hq) hl
  rw [mj_e_obj hci]
  have he := mj_map_set (A0 := A0) (sa := sa) (d := (ci, n, rs)) (d' := (ci, n, rs.set kf (some b))) (Ia := h.2.1 a) (Ib := h.2.1 a) (La := h.2.2 a) (Lb := h.2.2 a) (n := n) (k := kf) (v := .ref b) (by
    have h1 : kf < rs.length := by omega
    simp [mj_av, hkd, mj_rf, h1]) (fun j hj => by simp [mj_av, Ne.symm hj])
  rw [← he]
  exact hat1
theorem V.iald {M : mjM} {K : Nat × Nat} {RET : Option Value → mjH → Prop} {pc : Nat} {lo : List (Nat × Value)} {st : List Value} {h : mjH} {k : Nat × Nat} {a n : Nat} {rs : List (Option Nat)} {i : Int32} (hd : decode (mj_b M) pc = .ok (.iaload, 1)) (hs : h.1[a]? = some (10, n, rs)) (hin : vp_in i n) (kk : V M K RET (pc + 1) lo (.int (h.2.1 a i.toNatClampNeg) :: st) h k) : V M K RET pc lo (.int i :: .ref a :: st) h k := by
  intro D ca A0 sa p l e s m args below meth c Q C hQ H locs ls hR hS hl
  exact va_iald C.1 C.2.1 C.2.2.2.2.2.2.2.1.1 (hR.one hs) 0 0 rfl rfl hin hd (kk D ca A0 sa p l e s m args below meth c Q C hQ H locs ls hR hS hl)
theorem V.lald {M : mjM} {K : Nat × Nat} {RET : Option Value → mjH → Prop} {pc : Nat} {lo : List (Nat × Value)} {st : List Value} {h : mjH} {k : Nat × Nat} {a n : Nat} {rs : List (Option Nat)} {i : Int32} (hd : decode (mj_b M) pc = .ok (.laload, 1)) (hs : h.1[a]? = some (11, n, rs)) (hin : vp_in i n) (kk : V M K RET (pc + 1) lo (.long (h.2.2 a i.toNatClampNeg) :: st) h k) : V M K RET pc lo (.int i :: .ref a :: st) h k := by
  intro D ca A0 sa p l e s m args below meth c Q C hQ H locs ls hR hS hl
  exact va_lald C.1 C.2.1 C.2.2.2.2.2.2.2.1.1 (hR.one hs) 0 1 rfl rfl hin hd (kk D ca A0 sa p l e s m args below meth c Q C hQ H locs ls hR hS hl)
theorem V.bald {M : mjM} {K : Nat × Nat} {RET : Option Value → mjH → Prop} {pc : Nat} {lo : List (Nat × Value)} {st : List Value} {h : mjH} {k : Nat × Nat} {a n : Nat} {rs : List (Option Nat)} {i : Int32} (hd : decode (mj_b M) pc = .ok (.baload, 1)) (hs : h.1[a]? = some (12, n, rs)) (hin : vp_in i n) (kk : V M K RET (pc + 1) lo (.int (h.2.1 a i.toNatClampNeg) :: st) h k) : V M K RET pc lo (.int i :: .ref a :: st) h k := by
  intro D ca A0 sa p l e s m args below meth c Q C hQ H locs ls hR hS hl
  exact va_bald C.1 C.2.1 C.2.2.2.2.2.2.2.1.1 (hR.one hs) 0 2 rfl rfl hin hd (kk D ca A0 sa p l e s m args below meth c Q C hQ H locs ls hR hS hl)
theorem mj_v_q {A0 : Nat} {sa : Nat → Nat} {rs : List (Option Nat)} {j : Nat} : va_rf (mj_qf A0 sa rs j) = mj_v A0 sa (mj_rf (rs.getD j none)) := by
  unfold mj_qf
  cases rs.getD j none <;> rfl
theorem V.aald {M : mjM} {K : Nat × Nat} {RET : Option Value → mjH → Prop} {pc : Nat} {lo : List (Nat × Value)} {st : List Value} {h : mjH} {k : Nat × Nat} {a t n : Nat} {rs : List (Option Nat)} {i : Int32} {v : Value} (hd : decode (mj_b M) pc = .ok (.aaload, 1)) (hs : h.1[a]? = some (t, n, rs)) (ht : t = 13 ∨ t = 14) (hin : vp_in i n) (hv : mj_rf (rs.getD i.toNatClampNeg none) = v) (kk : V M K RET (pc + 1) lo (v :: st) h k) : V M K RET pc lo (.int i :: .ref a :: st) h k := by
  intro D ca A0 sa p l e s m args below meth c Q C hQ H locs ls hR hS hl
  have hP := hR.one hs
  rw [mj_e_q ht] at hP
  have k2 := (kk D ca A0 sa p l e s m args below meth c Q C hQ H locs ls hR hS hl)
  rw [List.map_cons, ← hv, ← mj_v_q] at k2
  rcases ht with rfl | rfl
  · exact va_aldq (C := "PolyDesk$Poly") C.1 C.2.1 C.2.2.2.2.2.2.2.1.1 hP 0 3 rfl rfl hin hd k2
  · exact va_aldq (C := "PolyDesk$Slot") C.1 C.2.1 C.2.2.2.2.2.2.2.1.1 hP 0 4 rfl rfl hin hd k2
theorem V.alen {M : mjM} {K : Nat × Nat} {RET : Option Value → mjH → Prop} {pc : Nat} {lo : List (Nat × Value)} {st : List Value} {h : mjH} {k : Nat × Nat} {a t n : Nat} {rs : List (Option Nat)} {v : Int32} (hd : decode (mj_b M) pc = .ok (.arraylength, 1)) (hs : h.1[a]? = some (t, n, rs)) (ht : t = 10 ∨ t = 11 ∨ t = 12 ∨ t = 13 ∨ t = 14) (hv : Int32.ofNat n = v) (kk : V M K RET (pc + 1) lo (.int v :: st) h k) : V M K RET pc lo (.ref a :: st) h k := by
  intro D ca A0 sa p l e s m args below meth c Q C hQ H locs ls hR hS hl
  have hP := hR.one hs
  rcases ht with rfl | rfl | rfl | rfl | rfl
  · exact va_alen C.1 C.2.1 C.2.2.2.2.2.2.2.1.1 hP 0 0 rfl rfl hv hd (kk D ca A0 sa p l e s m args below meth c Q C hQ H locs ls hR hS hl)
  · exact va_alen C.1 C.2.1 C.2.2.2.2.2.2.2.1.1 hP 0 1 rfl rfl hv hd (kk D ca A0 sa p l e s m args below meth c Q C hQ H locs ls hR hS hl)
  · exact va_alen C.1 C.2.1 C.2.2.2.2.2.2.2.1.1 hP 0 2 rfl rfl hv hd (kk D ca A0 sa p l e s m args below meth c Q C hQ H locs ls hR hS hl)
  · exact va_alen C.1 C.2.1 C.2.2.2.2.2.2.2.1.1 hP 0 3 rfl rfl hv hd (kk D ca A0 sa p l e s m args below meth c Q C hQ H locs ls hR hS hl)
  · exact va_alen C.1 C.2.1 C.2.2.2.2.2.2.2.1.1 hP 0 4 rfl rfl hv hd (kk D ca A0 sa p l e s m args below meth c Q C hQ H locs ls hR hS hl)
theorem mj_updI {cA : ClassId} {n j : Nat} {f : Nat → Int32} {x : Int32} : (vp_cell cA (n, .inl f)).setSlot j (.int x) = vp_cell cA (n, .inl (fun i => if i = j then x else f i)) := by
  rw [vp_cell_i, vp_cell_i, arrV_store]
  congr 2
  funext q
  by_cases hq : q = j <;> simp [updV, hq]
theorem mj_updL {cA : ClassId} {n j : Nat} {f : Nat → Int64} {x : Int64} : (vp_cell cA (n, .inr (.inl f))).setSlot j (.long x) = vp_cell cA (n, .inr (.inl (fun i => if i = j then x else f i))) := by
  rw [vp_cell_l, vp_cell_l, arrV_store]
  congr 2
  funext q
  by_cases hq : q = j <;> simp [updV, hq]
theorem mj_updQ {cA : ClassId} {n j y : Nat} {f : Nat → Option Nat} : (vp_cell cA (n, .inr (.inr (.inr (.inr f))))).setSlot j (.ref y) = vp_cell cA (n, .inr (.inr (.inr (.inr (fun i => if i = j then some y else f i))))) := by
  rw [vp_cell_q, vp_cell_q, arrV_store]
  congr 2
  funext q
  by_cases hq : q = j <;> simp [updV, hq, va_rf]
theorem V.iast {M : mjM} {K : Nat × Nat} {RET : Option Value → mjH → Prop} {pc : Nat} {lo : List (Nat × Value)} {st : List Value} {h : mjH} {k : Nat × Nat} {a n : Nat} {rs : List (Option Nat)} {i : Int32} {x : Int32} (hd : decode (mj_b M) pc = .ok (.iastore, 1)) (hs : h.1[a]? = some (10, n, rs)) (hin : vp_in i n) (kk : V M K RET (pc + 1) lo st (h.1, mj_up h.2.1 a i.toNatClampNeg x, h.2.2) k) : V M K RET pc lo (.int x :: .int i :: .ref a :: st) h k := by
  intro D ca A0 sa p l e s m args below meth c Q C hQ H locs ls hR hS hl
  have hat : H[mj_ad A0 sa a]? = some (vp_cell (ca 10) (n, .inl (h.2.1 a))) := hR.one hs 0 _ rfl
  refine W.iast C.1 C.2.1 hat ((C.2.2.2.2.2.2.2.1.1.2 0 _ rfl).1 n (fun j => .int ((h.2.1 a) j))) (fun q => by cases q) (by show ¬ (i < 0 ∨ (arrV _ _ _).slots.size ≤ _); rw [arrV_size]; exact hin) rfl rfl hd fun H1 e1 hz hq => ?_
  refine kk D ca A0 sa p l e s m args below meth c Q C hQ H1 _ ls (hR.set hs hs rfl (fun b hb => ⟨rfl, mj_up_ne hb, rfl⟩) ?_ hz hq) (mj_S.put hS (hR.lt hs) hz hq) hl
  show H1[mj_ad A0 sa a]? = some (vp_cell (ca 10) (n, .inl (mj_up h.2.1 a i.toNatClampNeg x a)))
  rw [mj_up_self, ← mj_updI]
  exact e1
theorem V.last {M : mjM} {K : Nat × Nat} {RET : Option Value → mjH → Prop} {pc : Nat} {lo : List (Nat × Value)} {st : List Value} {h : mjH} {k : Nat × Nat} {a n : Nat} {rs : List (Option Nat)} {i : Int32} {x : Int64} (hd : decode (mj_b M) pc = .ok (.lastore, 1)) (hs : h.1[a]? = some (11, n, rs)) (hin : vp_in i n) (kk : V M K RET (pc + 1) lo st (h.1, h.2.1, mj_up h.2.2 a i.toNatClampNeg x) k) : V M K RET pc lo (.long x :: .int i :: .ref a :: st) h k := by
  intro D ca A0 sa p l e s m args below meth c Q C hQ H locs ls hR hS hl
  have hat : H[mj_ad A0 sa a]? = some (vp_cell (ca 11) (n, .inr (.inl (h.2.2 a)))) := hR.one hs 0 _ rfl
  refine W.last C.1 C.2.1 hat ((C.2.2.2.2.2.2.2.1.1.2 1 _ rfl).1 n (fun j => .long ((h.2.2 a) j))) (fun q => by cases q) (by show ¬ (i < 0 ∨ (arrV _ _ _).slots.size ≤ _); rw [arrV_size]; exact hin) rfl rfl hd fun H1 e1 hz hq => ?_
  refine kk D ca A0 sa p l e s m args below meth c Q C hQ H1 _ ls (hR.set hs hs rfl (fun b hb => ⟨rfl, rfl, mj_up_ne hb⟩) ?_ hz hq) (mj_S.put hS (hR.lt hs) hz hq) hl
  show H1[mj_ad A0 sa a]? = some (vp_cell (ca 11) (n, .inr (.inl (mj_up h.2.2 a i.toNatClampNeg x a))))
  rw [mj_up_self, ← mj_updL]
  exact e1
theorem V.bast {M : mjM} {K : Nat × Nat} {RET : Option Value → mjH → Prop} {pc : Nat} {lo : List (Nat × Value)} {st : List Value} {h : mjH} {k : Nat × Nat} {a n : Nat} {rs : List (Option Nat)} {i : Int32} {x : Int32} (hd : decode (mj_b M) pc = .ok (.bastore, 1)) (hs : h.1[a]? = some (12, n, rs)) (hin : vp_in i n) (kk : V M K RET (pc + 1) lo st (h.1, mj_up h.2.1 a i.toNatClampNeg x.toInt8.toInt32, h.2.2) k) : V M K RET pc lo (.int x :: .int i :: .ref a :: st) h k := by
  intro D ca A0 sa p l e s m args below meth c Q C hQ H locs ls hR hS hl
  have hat : H[mj_ad A0 sa a]? = some (vp_cell (ca 12) (n, .inl (h.2.1 a))) := hR.one hs 0 _ rfl
  refine W.bast C.1 C.2.1 hat ((C.2.2.2.2.2.2.2.1.1.2 2 _ rfl).1 n (fun j => .int ((h.2.1 a) j))) (fun q => by cases q) (by show ¬ (i < 0 ∨ (arrV _ _ _).slots.size ≤ _); rw [arrV_size]; exact hin) rfl rfl hd fun H1 e1 hz hq => ?_
  refine kk D ca A0 sa p l e s m args below meth c Q C hQ H1 _ ls (hR.set hs hs rfl (fun b hb => ⟨rfl, mj_up_ne hb, rfl⟩) ?_ hz hq) (mj_S.put hS (hR.lt hs) hz hq) hl
  show H1[mj_ad A0 sa a]? = some (vp_cell (ca 12) (n, .inl (mj_up h.2.1 a i.toNatClampNeg x.toInt8.toInt32 a)))
  rw [mj_up_self, ← mj_updI]
  exact e1
theorem V.gets_KIND_LETTERS {M : mjM} {K : Nat × Nat} {RET : Option Value → mjH → Prop} {pc : Nat} {lo : List (Nat × Value)} {st : List Value} {h : mjH} {k : Nat × Nat} {idx : Nat} (hd : decode (mj_b M) pc = .ok (.getstatic idx, 3)) (hw : Cond.fieldLink (mj_y M).cls idx "PolyDesk" "KIND_LETTERS" "[C" ∈ mj_W ∨ ∃ q ∈ mj_NWf, mj_nf q = Cond.fieldLinkNest (mj_y M).cls idx "PolyDesk" "KIND_LETTERS" "[C" "PolyDesk") (kk : V M K RET (pc + 3) lo (.ref 1000001 :: st) h k) : V M K RET pc lo st h k := by
  intro D ca A0 sa p l e s m args below meth c Q C hQ H locs ls hR hS hl
  rcases hw with hw | ⟨q, hq, hw⟩
  · exact va_gets C.1 C.2.1 C.2.2.2.2.2.2.2.1.2.2.2.2.1 hS C.2.2.2.2.1 (C.2.2.2.2.2.1 _ hw) (fun _ z => z) hd (kk D ca A0 sa p l e s m args below meth c Q C hQ H locs ls hR hS hl)
  · have hx := C.2.2.2.2.2.2.2.1.2.1.1 q hq
    rw [hw] at hx
    exact va_getsN C.1 C.2.1 C.2.2.2.2.2.2.2.1.2.2.2.2.1 hS C.2.2.2.2.1 (va_Nw.use rfl hx) (fun _ z => z) hd (kk D ca A0 sa p l e s m args below meth c Q C hQ H locs ls hR hS hl)
theorem V.ld_KIND_LETTERS {M : mjM} {K : Nat × Nat} {RET : Option Value → mjH → Prop} {pc : Nat} {lo : List (Nat × Value)} {st : List Value} {h : mjH} {k : Nat × Nat} {i x : Int32} (hd : decode (mj_b M) pc = .ok (.caload, 1)) (hin : vp_in i 5) (hx : (mj_st 1000001).getD i.toNatClampNeg 0 = x) (kk : V M K RET (pc + 1) lo (.int x :: st) h k) : V M K RET pc lo (.int i :: .ref 1000001 :: st) h k := by
  intro D ca A0 sa p l e s m args below meth c Q C hQ H locs ls hR hS hl
  exact va_tc C.1 C.2.1 C.2.2.2.2.2.2.2.1.2.2.2.2.2.1 hS hin (v := .int x) (by rw [← hx]; rfl) hd (kk D ca A0 sa p l e s m args below meth c Q C hQ H locs ls hR hS hl)
theorem V.len_KIND_LETTERS {M : mjM} {K : Nat × Nat} {RET : Option Value → mjH → Prop} {pc : Nat} {lo : List (Nat × Value)} {st : List Value} {h : mjH} {k : Nat × Nat} (hd : decode (mj_b M) pc = .ok (.arraylength, 1)) (kk : V M K RET (pc + 1) lo (.int 5 :: st) h k) : V M K RET pc lo (.ref 1000001 :: st) h k := by
  intro D ca A0 sa p l e s m args below meth c Q C hQ H locs ls hR hS hl
  exact va_tlen C.1 C.2.1 C.2.2.2.2.2.2.2.1.2.2.2.2.2.1 hS (v := 5) rfl hd (kk D ca A0 sa p l e s m args below meth c Q C hQ H locs ls hR hS hl)
theorem V.gets_PRIMES {M : mjM} {K : Nat × Nat} {RET : Option Value → mjH → Prop} {pc : Nat} {lo : List (Nat × Value)} {st : List Value} {h : mjH} {k : Nat × Nat} {idx : Nat} (hd : decode (mj_b M) pc = .ok (.getstatic idx, 3)) (hw : Cond.fieldLink (mj_y M).cls idx "PolyDesk" "PRIMES" "[I" ∈ mj_W ∨ ∃ q ∈ mj_NWf, mj_nf q = Cond.fieldLinkNest (mj_y M).cls idx "PolyDesk" "PRIMES" "[I" "PolyDesk") (kk : V M K RET (pc + 3) lo (.ref 1000002 :: st) h k) : V M K RET pc lo st h k := by
  intro D ca A0 sa p l e s m args below meth c Q C hQ H locs ls hR hS hl
  rcases hw with hw | ⟨q, hq, hw⟩
  · exact va_gets C.1 C.2.1 C.2.2.2.2.2.2.2.1.2.2.2.2.2.2.1 hS C.2.2.2.2.1 (C.2.2.2.2.2.1 _ hw) (fun _ z => z) hd (kk D ca A0 sa p l e s m args below meth c Q C hQ H locs ls hR hS hl)
  · have hx := C.2.2.2.2.2.2.2.1.2.1.1 q hq
    rw [hw] at hx
    exact va_getsN C.1 C.2.1 C.2.2.2.2.2.2.2.1.2.2.2.2.2.2.1 hS C.2.2.2.2.1 (va_Nw.use rfl hx) (fun _ z => z) hd (kk D ca A0 sa p l e s m args below meth c Q C hQ H locs ls hR hS hl)
theorem V.ld_PRIMES {M : mjM} {K : Nat × Nat} {RET : Option Value → mjH → Prop} {pc : Nat} {lo : List (Nat × Value)} {st : List Value} {h : mjH} {k : Nat × Nat} {i x : Int32} (hd : decode (mj_b M) pc = .ok (.iaload, 1)) (hin : vp_in i 6) (hx : (mj_st 1000002).getD i.toNatClampNeg 0 = x) (kk : V M K RET (pc + 1) lo (.int x :: st) h k) : V M K RET pc lo (.int i :: .ref 1000002 :: st) h k := by
  intro D ca A0 sa p l e s m args below meth c Q C hQ H locs ls hR hS hl
  exact va_ti C.1 C.2.1 C.2.2.2.2.2.2.2.1.2.2.2.2.2.2.2.1 hS hin (v := .int x) (by rw [← hx]; rfl) hd (kk D ca A0 sa p l e s m args below meth c Q C hQ H locs ls hR hS hl)
theorem V.len_PRIMES {M : mjM} {K : Nat × Nat} {RET : Option Value → mjH → Prop} {pc : Nat} {lo : List (Nat × Value)} {st : List Value} {h : mjH} {k : Nat × Nat} (hd : decode (mj_b M) pc = .ok (.arraylength, 1)) (kk : V M K RET (pc + 1) lo (.int 6 :: st) h k) : V M K RET pc lo (.ref 1000002 :: st) h k := by
  intro D ca A0 sa p l e s m args below meth c Q C hQ H locs ls hR hS hl
  exact va_tlen C.1 C.2.1 C.2.2.2.2.2.2.2.1.2.2.2.2.2.2.2.1 hS (v := 6) rfl hd (kk D ca A0 sa p l e s m args below meth c Q C hQ H locs ls hR hS hl)
theorem V.gets_HAPPENS {M : mjM} {K : Nat × Nat} {RET : Option Value → mjH → Prop} {pc : Nat} {lo : List (Nat × Value)} {st : List Value} {h : mjH} {k : Nat × Nat} {idx : Nat} (hd : decode (mj_b M) pc = .ok (.getstatic idx, 3)) (hw : Cond.fieldLink (mj_y M).cls idx "PolyDesk$Notes" "HAPPENS_WITH" "[I" ∈ mj_W ∨ ∃ q ∈ mj_NWf, mj_nf q = Cond.fieldLinkNest (mj_y M).cls idx "PolyDesk$Notes" "HAPPENS_WITH" "[I" "PolyDesk") (kk : V M K RET (pc + 3) lo (.ref 1000003 :: st) h k) : V M K RET pc lo st h k := by
  intro D ca A0 sa p l e s m args below meth c Q C hQ H locs ls hR hS hl
  rcases hw with hw | ⟨q, hq, hw⟩
  · exact va_gets C.1 C.2.1 C.2.2.2.2.2.2.2.1.2.2.2.2.2.2.2.2.1 hS C.2.2.2.2.1 (C.2.2.2.2.2.1 _ hw) (fun _ z => z) hd (kk D ca A0 sa p l e s m args below meth c Q C hQ H locs ls hR hS hl)
  · have hx := C.2.2.2.2.2.2.2.1.2.1.1 q hq
    rw [hw] at hx
    exact va_getsN C.1 C.2.1 C.2.2.2.2.2.2.2.1.2.2.2.2.2.2.2.2.1 hS C.2.2.2.2.1 (va_Nw.use rfl hx) (fun _ z => z) hd (kk D ca A0 sa p l e s m args below meth c Q C hQ H locs ls hR hS hl)
theorem V.ld_HAPPENS {M : mjM} {K : Nat × Nat} {RET : Option Value → mjH → Prop} {pc : Nat} {lo : List (Nat × Value)} {st : List Value} {h : mjH} {k : Nat × Nat} {i x : Int32} (hd : decode (mj_b M) pc = .ok (.iaload, 1)) (hin : vp_in i 4) (hx : (mj_st 1000003).getD i.toNatClampNeg 0 = x) (kk : V M K RET (pc + 1) lo (.int x :: st) h k) : V M K RET pc lo (.int i :: .ref 1000003 :: st) h k := by
  intro D ca A0 sa p l e s m args below meth c Q C hQ H locs ls hR hS hl
  exact va_ti C.1 C.2.1 C.2.2.2.2.2.2.2.1.2.2.2.2.2.2.2.2.2.1 hS hin (v := .int x) (by rw [← hx]; rfl) hd (kk D ca A0 sa p l e s m args below meth c Q C hQ H locs ls hR hS hl)
theorem V.len_HAPPENS {M : mjM} {K : Nat × Nat} {RET : Option Value → mjH → Prop} {pc : Nat} {lo : List (Nat × Value)} {st : List Value} {h : mjH} {k : Nat × Nat} (hd : decode (mj_b M) pc = .ok (.arraylength, 1)) (kk : V M K RET (pc + 1) lo (.int 4 :: st) h k) : V M K RET pc lo (.ref 1000003 :: st) h k := by
  intro D ca A0 sa p l e s m args below meth c Q C hQ H locs ls hR hS hl
  exact va_tlen C.1 C.2.1 C.2.2.2.2.2.2.2.1.2.2.2.2.2.2.2.2.2.1 hS (v := 4) rfl hd (kk D ca A0 sa p l e s m args below meth c Q C hQ H locs ls hR hS hl)
theorem V.sld {M : mjM} {K : Nat × Nat} {RET : Option Value → mjH → Prop} {pc : Nat} {lo : List (Nat × Value)} {st : List Value} {h : mjH} {k : Nat × Nat} {n : Nat} {xs : Nat → Int32} {i : Int32} (hx : mj_x M = some (n, xs)) (hd : decode (mj_b M) pc = .ok (.iaload, 1)) (hin : vp_in i n) (kk : V M K RET (pc + 1) lo (.int (xs i.toNatClampNeg) :: st) h k) : V M K RET pc lo (.int i :: .ref 1000000 :: st) h k := by
  intro D ca A0 sa p l e s m args below meth c Q C hQ H locs ls hR hS hl
  obtain ⟨h1, h2, h3⟩ := C.2.2.2.2.2.2.2.2.2 _ hx
  exact va_sld C.1 C.2.1 h1 h2 h3 hS hin hd (kk D ca A0 sa p l e s m args below meth c Q C hQ H locs ls hR hS hl)
theorem V.slen {M : mjM} {K : Nat × Nat} {RET : Option Value → mjH → Prop} {pc : Nat} {lo : List (Nat × Value)} {st : List Value} {h : mjH} {k : Nat × Nat} {n : Nat} {xs : Nat → Int32} (hx : mj_x M = some (n, xs)) (hd : decode (mj_b M) pc = .ok (.arraylength, 1)) (kk : V M K RET (pc + 1) lo (.int (Int32.ofNat n) :: st) h k) : V M K RET pc lo (.ref 1000000 :: st) h k := by
  intro D ca A0 sa p l e s m args below meth c Q C hQ H locs ls hR hS hl
  obtain ⟨h1, h2, h3⟩ := C.2.2.2.2.2.2.2.2.2 _ hx
  exact va_slen C.1 C.2.1 h1 h2 h3 hS hd (kk D ca A0 sa p l e s m args below meth c Q C hQ H locs ls hR hS hl)
end
