/-! ROWS OF THE SMALL MACHINE: an instruction, a row -/
section
set_option linter.unusedVariables false
def mj_g (lo : List (Nat × Value)) (i : Nat) : Option Value := match lo with
  | [] => none
  | q :: r => cond (Nat.beq q.1 i) (some q.2) (mj_g r i)
theorem mj_g_at {lo : List (Nat × Value)} {i : Nat} {v : Value} (h : mj_g lo i = some v) : ∃ k : Nat, lo[k]? = some (i, v) := by
  induction lo with
  | nil => cases h
  | cons q r ih =>
    unfold mj_g at h
    cases hb : Nat.beq q.1 i with
    | true =>
      rw [hb] at h
      cases h
      exact ⟨0, by rw [← Nat.eq_of_beq_eq_true hb]; rfl⟩
    | false =>
      rw [hb] at h
      obtain ⟨k, hk⟩ := ih h
      exact ⟨k + 1, hk⟩
theorem mj_lk {A0 : Nat} {sa : Nat → Nat} {lo : List (Nat × Value)} {ls : Array Slot} {n i : Nat} {v : Value} (hl : lv_has ls n (mj_lo A0 sa lo)) (h : mj_g lo i = some v) : ls[i]? = some (.val (mj_v A0 sa v)) := by
  obtain ⟨k, hk⟩ := mj_g_at h
  exact lv_at hl k (by unfold mj_lo; rw [List.getElem?_map, hk]; rfl)
theorem mj_cat {A0 : Nat} {sa : Nat → Nat} (v : Value) : (mj_v A0 sa v).category = v.category := by cases v <;> rfl
def mj_s1 (i : Nat) (lo : List (Nat × Value)) : List (Nat × Value) := lo.filter (fun q => !(q.1 == i) && !(q.1 + 1 == i && q.2.category == 2))
def mj_s2 (i : Nat) (lo : List (Nat × Value)) : List (Nat × Value) := lo.filter (fun q => !(q.1 == i) && (!(q.1 == i + 1) && !(q.1 + 1 == i && q.2.category == 2)))
theorem mj_s1_lo {A0 : Nat} {sa : Nat → Nat} (i : Nat) (lo : List (Nat × Value)) : (mj_lo A0 sa lo).filter (fun q => !(q.1 == i) && !(q.1 + 1 == i && q.2.category == 2)) = mj_lo A0 sa (mj_s1 i lo) := by
  unfold mj_lo mj_s1
  rw [List.filter_map]
  congr 1
  apply List.filter_congr
  intro q _
  simp [mj_cat]
theorem mj_s2_lo {A0 : Nat} {sa : Nat → Nat} (i : Nat) (lo : List (Nat × Value)) : (mj_lo A0 sa lo).filter (fun q => !(q.1 == i) && (!(q.1 == i + 1) && !(q.1 + 1 == i && q.2.category == 2))) = mj_lo A0 sa (mj_s2 i lo) := by
  unfold mj_lo mj_s2
  rw [List.filter_map]
  congr 1
  apply List.filter_congr
  intro q _
  simp [mj_cat]
theorem V.lo {M : mjM} {K : Nat × Nat} {RET : Option Value → mjH → Prop} {pc : Nat} {lo lo' : List (Nat × Value)} {st : List Value} {h : mjH} {k : Nat × Nat} (hs : ∀ q ∈ lo', q ∈ lo) (kk : V M K RET pc lo' st h k) : V M K RET pc lo st h k := by
  intro D ca A0 sa p l e s m args below meth c Q C hQ H locs ls hR hS hl
  refine kk D ca A0 sa p l e s m args below meth c Q C hQ H locs ls hR hS ⟨hl.1, hl.2.1, fun q hq => ?_⟩
  obtain ⟨q0, h0, rfl⟩ := List.mem_map.mp hq
  exact hl.2.2 _ (List.mem_map.mpr ⟨q0, hs _ h0, rfl⟩)
theorem V.iconst {M : mjM} {K : Nat × Nat} {RET : Option Value → mjH → Prop} {pc : Nat} {lo : List (Nat × Value)} {st : List Value} {h : mjH} {k : Nat × Nat} {n : Int} {v : Int32} (hd : decode (mj_b M) pc = .ok (.iconst n, 1)) (hv : Int32.ofInt n = v) (kk : V M K RET (pc + 1) lo (.int v :: st) h k) : V M K RET pc lo st h k := by
  intro D ca A0 sa p l e s m args below meth c Q C hQ H locs ls hR hS hl
  exact lv_iconst C.1 C.2.1 hd hv (kk D ca A0 sa p l e s m args below meth c Q C hQ H locs ls hR hS hl)
theorem V.bipush {M : mjM} {K : Nat × Nat} {RET : Option Value → mjH → Prop} {pc : Nat} {lo : List (Nat × Value)} {st : List Value} {h : mjH} {k : Nat × Nat} {n : Int} {v : Int32} (hd : decode (mj_b M) pc = .ok (.bipush n, 2)) (hv : (Int8.ofInt n).toInt32 = v) (kk : V M K RET (pc + 2) lo (.int v :: st) h k) : V M K RET pc lo st h k := by
  intro D ca A0 sa p l e s m args below meth c Q C hQ H locs ls hR hS hl
  exact lv_bipush C.1 C.2.1 hd hv (kk D ca A0 sa p l e s m args below meth c Q C hQ H locs ls hR hS hl)
theorem V.sipush {M : mjM} {K : Nat × Nat} {RET : Option Value → mjH → Prop} {pc : Nat} {lo : List (Nat × Value)} {st : List Value} {h : mjH} {k : Nat × Nat} {n : Int} {v : Int32} (hd : decode (mj_b M) pc = .ok (.sipush n, 3)) (hv : (Int16.ofInt n).toInt32 = v) (kk : V M K RET (pc + 3) lo (.int v :: st) h k) : V M K RET pc lo st h k := by
  intro D ca A0 sa p l e s m args below meth c Q C hQ H locs ls hR hS hl
  exact lv_sipush C.1 C.2.1 hd hv (kk D ca A0 sa p l e s m args below meth c Q C hQ H locs ls hR hS hl)
theorem V.lconst {M : mjM} {K : Nat × Nat} {RET : Option Value → mjH → Prop} {pc : Nat} {lo : List (Nat × Value)} {st : List Value} {h : mjH} {k : Nat × Nat} {n : Fin 2} {v : Int64} (hd : decode (mj_b M) pc = .ok (.lconst n, 1)) (hv : Int64.ofNat (n : Nat) = v) (kk : V M K RET (pc + 1) lo (.long v :: st) h k) : V M K RET pc lo st h k := by
  intro D ca A0 sa p l e s m args below meth c Q C hQ H locs ls hR hS hl
  exact lv_lconst C.1 C.2.1 hd hv (kk D ca A0 sa p l e s m args below meth c Q C hQ H locs ls hR hS hl)
theorem V.null {M : mjM} {K : Nat × Nat} {RET : Option Value → mjH → Prop} {pc : Nat} {lo : List (Nat × Value)} {st : List Value} {h : mjH} {k : Nat × Nat}  (hd : decode (mj_b M) pc = .ok (.aconst_null, 1)) (kk : V M K RET (pc + 1) lo (.null :: st) h k) : V M K RET pc lo st h k := by
  intro D ca A0 sa p l e s m args below meth c Q C hQ H locs ls hR hS hl
  exact lv_null C.1 C.2.1 hd (kk D ca A0 sa p l e s m args below meth c Q C hQ H locs ls hR hS hl)
theorem V.ldc {M : mjM} {K : Nat × Nat} {RET : Option Value → mjH → Prop} {pc : Nat} {lo : List (Nat × Value)} {st : List Value} {h : mjH} {k : Nat × Nat} {i : Nat} {v : Int32} (hw : Jvm.Cond.constant (mj_y M).cls i v ∈ mj_W) (hd : decode (mj_b M) pc = .ok (.ldc i, 2)) (kk : V M K RET (pc + 2) lo (.int v :: st) h k) : V M K RET pc lo st h k := by
  intro D ca A0 sa p l e s m args below meth c Q C hQ H locs ls hR hS hl
  exact lv_ldc C.1 C.2.1 C.2.2.2.2.1 (C.2.2.2.2.2.1 _ hw) hd (kk D ca A0 sa p l e s m args below meth c Q C hQ H locs ls hR hS hl)
theorem V.ldc2 {M : mjM} {K : Nat × Nat} {RET : Option Value → mjH → Prop} {pc : Nat} {lo : List (Nat × Value)} {st : List Value} {h : mjH} {k : Nat × Nat} {i : Nat} {v : Int64} (hw : Jvm.Cond.constantLong (mj_y M).cls i v ∈ mj_W) (hd : decode (mj_b M) pc = .ok (.ldc2_w i, 3)) (kk : V M K RET (pc + 3) lo (.long v :: st) h k) : V M K RET pc lo st h k := by
  intro D ca A0 sa p l e s m args below meth c Q C hQ H locs ls hR hS hl
  exact lv_ldc2 C.1 C.2.1 C.2.2.2.2.1 (C.2.2.2.2.2.1 _ hw) hd (kk D ca A0 sa p l e s m args below meth c Q C hQ H locs ls hR hS hl)
theorem V.iload_n {M : mjM} {K : Nat × Nat} {RET : Option Value → mjH → Prop} {pc : Nat} {lo : List (Nat × Value)} {st : List Value} {h : mjH} {k : Nat × Nat} {j : Fin 4} {i : Nat} {x : Int32} (hd : decode (mj_b M) pc = .ok (.iload_n j, 1)) (hi : (j : Nat) = i) (hg : mj_g lo i = some (.int x)) (kk : V M K RET (pc + 1) lo (.int x :: st) h k) : V M K RET pc lo st h k := by
  intro D ca A0 sa p l e s m args below meth c Q C hQ H locs ls hR hS hl
  exact lv_iload_n C.1 C.2.1 hd hi (mj_lk hl hg) (kk D ca A0 sa p l e s m args below meth c Q C hQ H locs ls hR hS hl)
theorem V.iload {M : mjM} {K : Nat × Nat} {RET : Option Value → mjH → Prop} {pc : Nat} {lo : List (Nat × Value)} {st : List Value} {h : mjH} {k : Nat × Nat} {i : Nat} {x : Int32} (hd : decode (mj_b M) pc = .ok (.iload i, 2)) (hg : mj_g lo i = some (.int x)) (kk : V M K RET (pc + 2) lo (.int x :: st) h k) : V M K RET pc lo st h k := by
  intro D ca A0 sa p l e s m args below meth c Q C hQ H locs ls hR hS hl
  exact lv_iload C.1 C.2.1 hd (mj_lk hl hg) (kk D ca A0 sa p l e s m args below meth c Q C hQ H locs ls hR hS hl)
theorem V.lload_n {M : mjM} {K : Nat × Nat} {RET : Option Value → mjH → Prop} {pc : Nat} {lo : List (Nat × Value)} {st : List Value} {h : mjH} {k : Nat × Nat} {j : Fin 4} {i : Nat} {x : Int64} (hd : decode (mj_b M) pc = .ok (.lload_n j, 1)) (hi : (j : Nat) = i) (hg : mj_g lo i = some (.long x)) (kk : V M K RET (pc + 1) lo (.long x :: st) h k) : V M K RET pc lo st h k := by
  intro D ca A0 sa p l e s m args below meth c Q C hQ H locs ls hR hS hl
  exact lv_lload_n C.1 C.2.1 hd hi (mj_lk hl hg) (kk D ca A0 sa p l e s m args below meth c Q C hQ H locs ls hR hS hl)
theorem V.lload {M : mjM} {K : Nat × Nat} {RET : Option Value → mjH → Prop} {pc : Nat} {lo : List (Nat × Value)} {st : List Value} {h : mjH} {k : Nat × Nat} {i : Nat} {x : Int64} (hd : decode (mj_b M) pc = .ok (.lload i, 2)) (hg : mj_g lo i = some (.long x)) (kk : V M K RET (pc + 2) lo (.long x :: st) h k) : V M K RET pc lo st h k := by
  intro D ca A0 sa p l e s m args below meth c Q C hQ H locs ls hR hS hl
  exact lv_lload C.1 C.2.1 hd (mj_lk hl hg) (kk D ca A0 sa p l e s m args below meth c Q C hQ H locs ls hR hS hl)
theorem V.aload_n {M : mjM} {K : Nat × Nat} {RET : Option Value → mjH → Prop} {pc : Nat} {lo : List (Nat × Value)} {st : List Value} {h : mjH} {k : Nat × Nat} {j : Fin 4} {i : Nat} {x : Nat} (hd : decode (mj_b M) pc = .ok (.aload_n j, 1)) (hi : (j : Nat) = i) (hg : mj_g lo i = some (.ref x)) (kk : V M K RET (pc + 1) lo (.ref x :: st) h k) : V M K RET pc lo st h k := by
  intro D ca A0 sa p l e s m args below meth c Q C hQ H locs ls hR hS hl
  exact lv_aload_n C.1 C.2.1 hd hi (mj_lk hl hg) (kk D ca A0 sa p l e s m args below meth c Q C hQ H locs ls hR hS hl)
theorem V.aload {M : mjM} {K : Nat × Nat} {RET : Option Value → mjH → Prop} {pc : Nat} {lo : List (Nat × Value)} {st : List Value} {h : mjH} {k : Nat × Nat} {i : Nat} {x : Nat} (hd : decode (mj_b M) pc = .ok (.aload i, 2)) (hg : mj_g lo i = some (.ref x)) (kk : V M K RET (pc + 2) lo (.ref x :: st) h k) : V M K RET pc lo st h k := by
  intro D ca A0 sa p l e s m args below meth c Q C hQ H locs ls hR hS hl
  exact lv_aload C.1 C.2.1 hd (mj_lk hl hg) (kk D ca A0 sa p l e s m args below meth c Q C hQ H locs ls hR hS hl)
theorem V.aload_nN {M : mjM} {K : Nat × Nat} {RET : Option Value → mjH → Prop} {pc : Nat} {lo : List (Nat × Value)} {st : List Value} {h : mjH} {k : Nat × Nat} {j : Fin 4} {i : Nat} (hd : decode (mj_b M) pc = .ok (.aload_n j, 1)) (hi : (j : Nat) = i) (hg : mj_g lo i = some .null) (kk : V M K RET (pc + 1) lo (.null :: st) h k) : V M K RET pc lo st h k := by
  intro D ca A0 sa p l e s m args below meth c Q C hQ H locs ls hR hS hl
  exact lv_aload_nN C.1 C.2.1 hd hi (mj_lk hl hg) (kk D ca A0 sa p l e s m args below meth c Q C hQ H locs ls hR hS hl)
theorem V.aloadN {M : mjM} {K : Nat × Nat} {RET : Option Value → mjH → Prop} {pc : Nat} {lo : List (Nat × Value)} {st : List Value} {h : mjH} {k : Nat × Nat} {i : Nat} (hd : decode (mj_b M) pc = .ok (.aload i, 2)) (hg : mj_g lo i = some .null) (kk : V M K RET (pc + 2) lo (.null :: st) h k) : V M K RET pc lo st h k := by
  intro D ca A0 sa p l e s m args below meth c Q C hQ H locs ls hR hS hl
  exact lv_aloadN C.1 C.2.1 hd (mj_lk hl hg) (kk D ca A0 sa p l e s m args below meth c Q C hQ H locs ls hR hS hl)
theorem V.istore_n {M : mjM} {K : Nat × Nat} {RET : Option Value → mjH → Prop} {pc : Nat} {lo : List (Nat × Value)} {st : List Value} {h : mjH} {k : Nat × Nat} {lo' : List (Nat × Value)} {j : Fin 4} {i : Nat} {x : Int32} (hd : decode (mj_b M) pc = .ok (.istore_n j, 1)) (hi : (j : Nat) = i) (hn : i < mj_n M) (he : (i, .int x) :: mj_s1 i lo = lo') (kk : V M K RET (pc + 1) lo' st h k) : V M K RET pc lo (.int x :: st) h k := by
  intro D ca A0 sa p l e s m args below meth c Q C hQ H locs ls hR hS hl
  refine lv_istore_n C.1 C.2.1 hd hi hl hn (lv' := mj_lo A0 sa lo') ?_ (fun ls' hl' => kk D ca A0 sa p l e s m args below meth c Q C hQ H locs ls' hR hS hl')
  rw [mj_s1_lo, ← he]
  rfl
theorem V.istore {M : mjM} {K : Nat × Nat} {RET : Option Value → mjH → Prop} {pc : Nat} {lo : List (Nat × Value)} {st : List Value} {h : mjH} {k : Nat × Nat} {lo' : List (Nat × Value)} {i : Nat} {x : Int32} (hd : decode (mj_b M) pc = .ok (.istore i, 2)) (hn : i < mj_n M) (he : (i, .int x) :: mj_s1 i lo = lo') (kk : V M K RET (pc + 2) lo' st h k) : V M K RET pc lo (.int x :: st) h k := by
  intro D ca A0 sa p l e s m args below meth c Q C hQ H locs ls hR hS hl
  refine lv_istore C.1 C.2.1 hd hl hn (lv' := mj_lo A0 sa lo') ?_ (fun ls' hl' => kk D ca A0 sa p l e s m args below meth c Q C hQ H locs ls' hR hS hl')
  rw [mj_s1_lo, ← he]
  rfl
theorem V.lstore_n {M : mjM} {K : Nat × Nat} {RET : Option Value → mjH → Prop} {pc : Nat} {lo : List (Nat × Value)} {st : List Value} {h : mjH} {k : Nat × Nat} {lo' : List (Nat × Value)} {j : Fin 4} {i : Nat} {x : Int64} (hd : decode (mj_b M) pc = .ok (.lstore_n j, 1)) (hi : (j : Nat) = i) (hn : i + 1 < mj_n M) (he : (i, .long x) :: mj_s2 i lo = lo') (kk : V M K RET (pc + 1) lo' st h k) : V M K RET pc lo (.long x :: st) h k := by
  intro D ca A0 sa p l e s m args below meth c Q C hQ H locs ls hR hS hl
  refine lv_lstore_n C.1 C.2.1 hd hi hl hn (lv' := mj_lo A0 sa lo') ?_ (fun ls' hl' => kk D ca A0 sa p l e s m args below meth c Q C hQ H locs ls' hR hS hl')
  rw [mj_s2_lo, ← he]
  rfl
theorem V.lstore {M : mjM} {K : Nat × Nat} {RET : Option Value → mjH → Prop} {pc : Nat} {lo : List (Nat × Value)} {st : List Value} {h : mjH} {k : Nat × Nat} {lo' : List (Nat × Value)} {i : Nat} {x : Int64} (hd : decode (mj_b M) pc = .ok (.lstore i, 2)) (hn : i + 1 < mj_n M) (he : (i, .long x) :: mj_s2 i lo = lo') (kk : V M K RET (pc + 2) lo' st h k) : V M K RET pc lo (.long x :: st) h k := by
  intro D ca A0 sa p l e s m args below meth c Q C hQ H locs ls hR hS hl
  refine lv_lstore C.1 C.2.1 hd hl hn (lv' := mj_lo A0 sa lo') ?_ (fun ls' hl' => kk D ca A0 sa p l e s m args below meth c Q C hQ H locs ls' hR hS hl')
  rw [mj_s2_lo, ← he]
  rfl
theorem V.astore_n {M : mjM} {K : Nat × Nat} {RET : Option Value → mjH → Prop} {pc : Nat} {lo : List (Nat × Value)} {st : List Value} {h : mjH} {k : Nat × Nat} {lo' : List (Nat × Value)} {j : Fin 4} {i : Nat} {x : Nat} (hd : decode (mj_b M) pc = .ok (.astore_n j, 1)) (hi : (j : Nat) = i) (hn : i < mj_n M) (he : (i, .ref x) :: mj_s1 i lo = lo') (kk : V M K RET (pc + 1) lo' st h k) : V M K RET pc lo (.ref x :: st) h k := by
  intro D ca A0 sa p l e s m args below meth c Q C hQ H locs ls hR hS hl
  refine lv_astore_n C.1 C.2.1 hd hi hl hn (lv' := mj_lo A0 sa lo') ?_ (fun ls' hl' => kk D ca A0 sa p l e s m args below meth c Q C hQ H locs ls' hR hS hl')
  rw [mj_s1_lo, ← he]
  rfl
theorem V.astore {M : mjM} {K : Nat × Nat} {RET : Option Value → mjH → Prop} {pc : Nat} {lo : List (Nat × Value)} {st : List Value} {h : mjH} {k : Nat × Nat} {lo' : List (Nat × Value)} {i : Nat} {x : Nat} (hd : decode (mj_b M) pc = .ok (.astore i, 2)) (hn : i < mj_n M) (he : (i, .ref x) :: mj_s1 i lo = lo') (kk : V M K RET (pc + 2) lo' st h k) : V M K RET pc lo (.ref x :: st) h k := by
  intro D ca A0 sa p l e s m args below meth c Q C hQ H locs ls hR hS hl
  refine lv_astore C.1 C.2.1 hd hl hn (lv' := mj_lo A0 sa lo') ?_ (fun ls' hl' => kk D ca A0 sa p l e s m args below meth c Q C hQ H locs ls' hR hS hl')
  rw [mj_s1_lo, ← he]
  rfl
theorem V.astore_nN {M : mjM} {K : Nat × Nat} {RET : Option Value → mjH → Prop} {pc : Nat} {lo : List (Nat × Value)} {st : List Value} {h : mjH} {k : Nat × Nat} {lo' : List (Nat × Value)} {j : Fin 4} {i : Nat} (hd : decode (mj_b M) pc = .ok (.astore_n j, 1)) (hi : (j : Nat) = i) (hn : i < mj_n M) (he : (i, .null) :: mj_s1 i lo = lo') (kk : V M K RET (pc + 1) lo' st h k) : V M K RET pc lo (.null :: st) h k := by
  intro D ca A0 sa p l e s m args below meth c Q C hQ H locs ls hR hS hl
  refine lv_astore_nN C.1 C.2.1 hd hi hl hn (lv' := mj_lo A0 sa lo') ?_ (fun ls' hl' => kk D ca A0 sa p l e s m args below meth c Q C hQ H locs ls' hR hS hl')
  rw [mj_s1_lo, ← he]
  rfl
theorem V.astoreN {M : mjM} {K : Nat × Nat} {RET : Option Value → mjH → Prop} {pc : Nat} {lo : List (Nat × Value)} {st : List Value} {h : mjH} {k : Nat × Nat} {lo' : List (Nat × Value)} {i : Nat} (hd : decode (mj_b M) pc = .ok (.astore i, 2)) (hn : i < mj_n M) (he : (i, .null) :: mj_s1 i lo = lo') (kk : V M K RET (pc + 2) lo' st h k) : V M K RET pc lo (.null :: st) h k := by
  intro D ca A0 sa p l e s m args below meth c Q C hQ H locs ls hR hS hl
  refine lv_astoreN C.1 C.2.1 hd hl hn (lv' := mj_lo A0 sa lo') ?_ (fun ls' hl' => kk D ca A0 sa p l e s m args below meth c Q C hQ H locs ls' hR hS hl')
  rw [mj_s1_lo, ← he]
  rfl
theorem V.iinc {M : mjM} {K : Nat × Nat} {RET : Option Value → mjH → Prop} {pc : Nat} {lo : List (Nat × Value)} {st : List Value} {h : mjH} {k : Nat × Nat} {lo' : List (Nat × Value)} {i : Nat} {n : Int} {x v : Int32} (hd : decode (mj_b M) pc = .ok (.iinc i n, 3)) (hg : mj_g lo i = some (.int x)) (hv : x + Int32.ofInt n = v) (hn : i < mj_n M) (he : (i, .int v) :: mj_s1 i lo = lo') (kk : V M K RET (pc + 3) lo' st h k) : V M K RET pc lo st h k := by
  intro D ca A0 sa p l e s m args below meth c Q C hQ H locs ls hR hS hl
  obtain ⟨k0, hk0⟩ := mj_g_at hg
  refine lv_iinc C.1 C.2.1 (lv' := mj_lo A0 sa lo') (k := k0) (x := x) hd hl (by unfold mj_lo; rw [List.getElem?_map, hk0]; rfl) hv hn ?_ (fun ls' hl' => kk D ca A0 sa p l e s m args below meth c Q C hQ H locs ls' hR hS hl')
  rw [mj_s1_lo, ← he]
  rfl
theorem V.iadd {M : mjM} {K : Nat × Nat} {RET : Option Value → mjH → Prop} {pc : Nat} {lo : List (Nat × Value)} {st : List Value} {h : mjH} {k : Nat × Nat} {x y : Int32} (hd : decode (mj_b M) pc = .ok (.iadd, 1)) (kk : V M K RET (pc + 1) lo (.int (x + y) :: st) h k) : V M K RET pc lo (.int y :: .int x :: st) h k := by
  intro D ca A0 sa p l e s m args below meth c Q C hQ H locs ls hR hS hl
  exact lv_iadd C.1 C.2.1 hd (kk D ca A0 sa p l e s m args below meth c Q C hQ H locs ls hR hS hl)
theorem V.isub {M : mjM} {K : Nat × Nat} {RET : Option Value → mjH → Prop} {pc : Nat} {lo : List (Nat × Value)} {st : List Value} {h : mjH} {k : Nat × Nat} {x y : Int32} (hd : decode (mj_b M) pc = .ok (.isub, 1)) (kk : V M K RET (pc + 1) lo (.int (x - y) :: st) h k) : V M K RET pc lo (.int y :: .int x :: st) h k := by
  intro D ca A0 sa p l e s m args below meth c Q C hQ H locs ls hR hS hl
  exact lv_isub C.1 C.2.1 hd (kk D ca A0 sa p l e s m args below meth c Q C hQ H locs ls hR hS hl)
theorem V.imul {M : mjM} {K : Nat × Nat} {RET : Option Value → mjH → Prop} {pc : Nat} {lo : List (Nat × Value)} {st : List Value} {h : mjH} {k : Nat × Nat} {x y : Int32} (hd : decode (mj_b M) pc = .ok (.imul, 1)) (kk : V M K RET (pc + 1) lo (.int (x * y) :: st) h k) : V M K RET pc lo (.int y :: .int x :: st) h k := by
  intro D ca A0 sa p l e s m args below meth c Q C hQ H locs ls hR hS hl
  exact lv_imul C.1 C.2.1 hd (kk D ca A0 sa p l e s m args below meth c Q C hQ H locs ls hR hS hl)
theorem V.iand {M : mjM} {K : Nat × Nat} {RET : Option Value → mjH → Prop} {pc : Nat} {lo : List (Nat × Value)} {st : List Value} {h : mjH} {k : Nat × Nat} {x y : Int32} (hd : decode (mj_b M) pc = .ok (.iand, 1)) (kk : V M K RET (pc + 1) lo (.int (x &&& y) :: st) h k) : V M K RET pc lo (.int y :: .int x :: st) h k := by
  intro D ca A0 sa p l e s m args below meth c Q C hQ H locs ls hR hS hl
  exact lv_iand C.1 C.2.1 hd (kk D ca A0 sa p l e s m args below meth c Q C hQ H locs ls hR hS hl)
theorem V.ior {M : mjM} {K : Nat × Nat} {RET : Option Value → mjH → Prop} {pc : Nat} {lo : List (Nat × Value)} {st : List Value} {h : mjH} {k : Nat × Nat} {x y : Int32} (hd : decode (mj_b M) pc = .ok (.ior, 1)) (kk : V M K RET (pc + 1) lo (.int (x ||| y) :: st) h k) : V M K RET pc lo (.int y :: .int x :: st) h k := by
  intro D ca A0 sa p l e s m args below meth c Q C hQ H locs ls hR hS hl
  exact lv_ior C.1 C.2.1 hd (kk D ca A0 sa p l e s m args below meth c Q C hQ H locs ls hR hS hl)
theorem V.ixor {M : mjM} {K : Nat × Nat} {RET : Option Value → mjH → Prop} {pc : Nat} {lo : List (Nat × Value)} {st : List Value} {h : mjH} {k : Nat × Nat} {x y : Int32} (hd : decode (mj_b M) pc = .ok (.ixor, 1)) (kk : V M K RET (pc + 1) lo (.int (x ^^^ y) :: st) h k) : V M K RET pc lo (.int y :: .int x :: st) h k := by
  intro D ca A0 sa p l e s m args below meth c Q C hQ H locs ls hR hS hl
  exact lv_ixor C.1 C.2.1 hd (kk D ca A0 sa p l e s m args below meth c Q C hQ H locs ls hR hS hl)
theorem V.ladd {M : mjM} {K : Nat × Nat} {RET : Option Value → mjH → Prop} {pc : Nat} {lo : List (Nat × Value)} {st : List Value} {h : mjH} {k : Nat × Nat} {x y : Int64} (hd : decode (mj_b M) pc = .ok (.ladd, 1)) (kk : V M K RET (pc + 1) lo (.long (x + y) :: st) h k) : V M K RET pc lo (.long y :: .long x :: st) h k := by
  intro D ca A0 sa p l e s m args below meth c Q C hQ H locs ls hR hS hl
  exact lv_ladd C.1 C.2.1 hd (kk D ca A0 sa p l e s m args below meth c Q C hQ H locs ls hR hS hl)
theorem V.lsub {M : mjM} {K : Nat × Nat} {RET : Option Value → mjH → Prop} {pc : Nat} {lo : List (Nat × Value)} {st : List Value} {h : mjH} {k : Nat × Nat} {x y : Int64} (hd : decode (mj_b M) pc = .ok (.lsub, 1)) (kk : V M K RET (pc + 1) lo (.long (x - y) :: st) h k) : V M K RET pc lo (.long y :: .long x :: st) h k := by
  intro D ca A0 sa p l e s m args below meth c Q C hQ H locs ls hR hS hl
  exact lv_lsub C.1 C.2.1 hd (kk D ca A0 sa p l e s m args below meth c Q C hQ H locs ls hR hS hl)
theorem V.lmul {M : mjM} {K : Nat × Nat} {RET : Option Value → mjH → Prop} {pc : Nat} {lo : List (Nat × Value)} {st : List Value} {h : mjH} {k : Nat × Nat} {x y : Int64} (hd : decode (mj_b M) pc = .ok (.lmul, 1)) (kk : V M K RET (pc + 1) lo (.long (x * y) :: st) h k) : V M K RET pc lo (.long y :: .long x :: st) h k := by
  intro D ca A0 sa p l e s m args below meth c Q C hQ H locs ls hR hS hl
  exact lv_lmul C.1 C.2.1 hd (kk D ca A0 sa p l e s m args below meth c Q C hQ H locs ls hR hS hl)
theorem V.land {M : mjM} {K : Nat × Nat} {RET : Option Value → mjH → Prop} {pc : Nat} {lo : List (Nat × Value)} {st : List Value} {h : mjH} {k : Nat × Nat} {x y : Int64} (hd : decode (mj_b M) pc = .ok (.land, 1)) (kk : V M K RET (pc + 1) lo (.long (x &&& y) :: st) h k) : V M K RET pc lo (.long y :: .long x :: st) h k := by
  intro D ca A0 sa p l e s m args below meth c Q C hQ H locs ls hR hS hl
  exact lv_land C.1 C.2.1 hd (kk D ca A0 sa p l e s m args below meth c Q C hQ H locs ls hR hS hl)
theorem V.lor {M : mjM} {K : Nat × Nat} {RET : Option Value → mjH → Prop} {pc : Nat} {lo : List (Nat × Value)} {st : List Value} {h : mjH} {k : Nat × Nat} {x y : Int64} (hd : decode (mj_b M) pc = .ok (.lor, 1)) (kk : V M K RET (pc + 1) lo (.long (x ||| y) :: st) h k) : V M K RET pc lo (.long y :: .long x :: st) h k := by
  intro D ca A0 sa p l e s m args below meth c Q C hQ H locs ls hR hS hl
  exact lv_lor C.1 C.2.1 hd (kk D ca A0 sa p l e s m args below meth c Q C hQ H locs ls hR hS hl)
theorem V.lxor {M : mjM} {K : Nat × Nat} {RET : Option Value → mjH → Prop} {pc : Nat} {lo : List (Nat × Value)} {st : List Value} {h : mjH} {k : Nat × Nat} {x y : Int64} (hd : decode (mj_b M) pc = .ok (.lxor, 1)) (kk : V M K RET (pc + 1) lo (.long (x ^^^ y) :: st) h k) : V M K RET pc lo (.long y :: .long x :: st) h k := by
  intro D ca A0 sa p l e s m args below meth c Q C hQ H locs ls hR hS hl
  exact lv_lxor C.1 C.2.1 hd (kk D ca A0 sa p l e s m args below meth c Q C hQ H locs ls hR hS hl)
theorem V.ishl {M : mjM} {K : Nat × Nat} {RET : Option Value → mjH → Prop} {pc : Nat} {lo : List (Nat × Value)} {st : List Value} {h : mjH} {k : Nat × Nat} {x y : Int32} (hd : decode (mj_b M) pc = .ok (.ishl, 1)) (kk : V M K RET (pc + 1) lo (.int (x <<< (y &&& 31)) :: st) h k) : V M K RET pc lo (.int y :: .int x :: st) h k := by
  intro D ca A0 sa p l e s m args below meth c Q C hQ H locs ls hR hS hl
  exact lv_ishl C.1 C.2.1 hd (kk D ca A0 sa p l e s m args below meth c Q C hQ H locs ls hR hS hl)
theorem V.ishr {M : mjM} {K : Nat × Nat} {RET : Option Value → mjH → Prop} {pc : Nat} {lo : List (Nat × Value)} {st : List Value} {h : mjH} {k : Nat × Nat} {x y : Int32} (hd : decode (mj_b M) pc = .ok (.ishr, 1)) (kk : V M K RET (pc + 1) lo (.int (x >>> (y &&& 31)) :: st) h k) : V M K RET pc lo (.int y :: .int x :: st) h k := by
  intro D ca A0 sa p l e s m args below meth c Q C hQ H locs ls hR hS hl
  exact lv_ishr C.1 C.2.1 hd (kk D ca A0 sa p l e s m args below meth c Q C hQ H locs ls hR hS hl)
theorem V.idiv {M : mjM} {K : Nat × Nat} {RET : Option Value → mjH → Prop} {pc : Nat} {lo : List (Nat × Value)} {st : List Value} {h : mjH} {k : Nat × Nat} {x y : Int32} (hd : decode (mj_b M) pc = .ok (.idiv, 1)) (hne : ¬ y = 0) (kk : V M K RET (pc + 1) lo (.int (x / y) :: st) h k) : V M K RET pc lo (.int y :: .int x :: st) h k := by
  intro D ca A0 sa p l e s m args below meth c Q C hQ H locs ls hR hS hl
  exact lv_idiv C.1 C.2.1 hd hne (kk D ca A0 sa p l e s m args below meth c Q C hQ H locs ls hR hS hl)
theorem V.irem {M : mjM} {K : Nat × Nat} {RET : Option Value → mjH → Prop} {pc : Nat} {lo : List (Nat × Value)} {st : List Value} {h : mjH} {k : Nat × Nat} {x y : Int32} (hd : decode (mj_b M) pc = .ok (.irem, 1)) (hne : ¬ y = 0) (kk : V M K RET (pc + 1) lo (.int (x - x / y * y) :: st) h k) : V M K RET pc lo (.int y :: .int x :: st) h k := by
  intro D ca A0 sa p l e s m args below meth c Q C hQ H locs ls hR hS hl
  exact lv_irem C.1 C.2.1 hd hne (kk D ca A0 sa p l e s m args below meth c Q C hQ H locs ls hR hS hl)
theorem V.ldiv {M : mjM} {K : Nat × Nat} {RET : Option Value → mjH → Prop} {pc : Nat} {lo : List (Nat × Value)} {st : List Value} {h : mjH} {k : Nat × Nat} {x y : Int64} (hd : decode (mj_b M) pc = .ok (.ldiv, 1)) (hne : ¬ y = 0) (kk : V M K RET (pc + 1) lo (.long (x / y) :: st) h k) : V M K RET pc lo (.long y :: .long x :: st) h k := by
  intro D ca A0 sa p l e s m args below meth c Q C hQ H locs ls hR hS hl
  exact lv_ldiv C.1 C.2.1 hd hne (kk D ca A0 sa p l e s m args below meth c Q C hQ H locs ls hR hS hl)
theorem V.lrem {M : mjM} {K : Nat × Nat} {RET : Option Value → mjH → Prop} {pc : Nat} {lo : List (Nat × Value)} {st : List Value} {h : mjH} {k : Nat × Nat} {x y : Int64} (hd : decode (mj_b M) pc = .ok (.lrem, 1)) (hne : ¬ y = 0) (kk : V M K RET (pc + 1) lo (.long (x - x / y * y) :: st) h k) : V M K RET pc lo (.long y :: .long x :: st) h k := by
  intro D ca A0 sa p l e s m args below meth c Q C hQ H locs ls hR hS hl
  exact lv_lrem C.1 C.2.1 hd hne (kk D ca A0 sa p l e s m args below meth c Q C hQ H locs ls hR hS hl)
theorem V.ineg {M : mjM} {K : Nat × Nat} {RET : Option Value → mjH → Prop} {pc : Nat} {lo : List (Nat × Value)} {st : List Value} {h : mjH} {k : Nat × Nat} {x : Int32} (hd : decode (mj_b M) pc = .ok (.ineg, 1)) (kk : V M K RET (pc + 1) lo (.int (-x) :: st) h k) : V M K RET pc lo (.int x :: st) h k := by
  intro D ca A0 sa p l e s m args below meth c Q C hQ H locs ls hR hS hl
  exact lv_ineg C.1 C.2.1 hd (kk D ca A0 sa p l e s m args below meth c Q C hQ H locs ls hR hS hl)
theorem V.lneg {M : mjM} {K : Nat × Nat} {RET : Option Value → mjH → Prop} {pc : Nat} {lo : List (Nat × Value)} {st : List Value} {h : mjH} {k : Nat × Nat} {x : Int64} (hd : decode (mj_b M) pc = .ok (.lneg, 1)) (kk : V M K RET (pc + 1) lo (.long (-x) :: st) h k) : V M K RET pc lo (.long x :: st) h k := by
  intro D ca A0 sa p l e s m args below meth c Q C hQ H locs ls hR hS hl
  exact lv_lneg C.1 C.2.1 hd (kk D ca A0 sa p l e s m args below meth c Q C hQ H locs ls hR hS hl)
theorem V.i2l {M : mjM} {K : Nat × Nat} {RET : Option Value → mjH → Prop} {pc : Nat} {lo : List (Nat × Value)} {st : List Value} {h : mjH} {k : Nat × Nat} {x : Int32} (hd : decode (mj_b M) pc = .ok (.i2l, 1)) (kk : V M K RET (pc + 1) lo (.long x.toInt64 :: st) h k) : V M K RET pc lo (.int x :: st) h k := by
  intro D ca A0 sa p l e s m args below meth c Q C hQ H locs ls hR hS hl
  exact lv_i2l C.1 C.2.1 hd rfl (kk D ca A0 sa p l e s m args below meth c Q C hQ H locs ls hR hS hl)
theorem V.l2i {M : mjM} {K : Nat × Nat} {RET : Option Value → mjH → Prop} {pc : Nat} {lo : List (Nat × Value)} {st : List Value} {h : mjH} {k : Nat × Nat} {x : Int64} (hd : decode (mj_b M) pc = .ok (.l2i, 1)) (kk : V M K RET (pc + 1) lo (.int x.toInt32 :: st) h k) : V M K RET pc lo (.long x :: st) h k := by
  intro D ca A0 sa p l e s m args below meth c Q C hQ H locs ls hR hS hl
  exact lv_l2i C.1 C.2.1 hd rfl (kk D ca A0 sa p l e s m args below meth c Q C hQ H locs ls hR hS hl)
theorem V.i2b {M : mjM} {K : Nat × Nat} {RET : Option Value → mjH → Prop} {pc : Nat} {lo : List (Nat × Value)} {st : List Value} {h : mjH} {k : Nat × Nat} {x : Int32} (hd : decode (mj_b M) pc = .ok (.i2b, 1)) (kk : V M K RET (pc + 1) lo (.int x.toInt8.toInt32 :: st) h k) : V M K RET pc lo (.int x :: st) h k := by
  intro D ca A0 sa p l e s m args below meth c Q C hQ H locs ls hR hS hl
  exact lv_i2b C.1 C.2.1 hd rfl (kk D ca A0 sa p l e s m args below meth c Q C hQ H locs ls hR hS hl)
theorem V.iushr {M : mjM} {K : Nat × Nat} {RET : Option Value → mjH → Prop} {pc : Nat} {lo : List (Nat × Value)} {st : List Value} {h : mjH} {k : Nat × Nat} {x y : Int32} (hd : decode (mj_b M) pc = .ok (.iushr, 1)) (kk : V M K RET (pc + 1) lo (.int (x.toUInt32 >>> (y.toUInt32 &&& Int32.toUInt32 31)).toInt32 :: st) h k) : V M K RET pc lo (.int y :: .int x :: st) h k := by
  intro D ca A0 sa p l e s m args below meth c Q C hQ H locs ls hR hS hl
  exact lv_iushr C.1 C.2.1 hd rfl (kk D ca A0 sa p l e s m args below meth c Q C hQ H locs ls hR hS hl)
theorem V.lushr {M : mjM} {K : Nat × Nat} {RET : Option Value → mjH → Prop} {pc : Nat} {lo : List (Nat × Value)} {st : List Value} {h : mjH} {k : Nat × Nat} {x : Int64} {y : Int32} (hd : decode (mj_b M) pc = .ok (.lushr, 1)) (kk : V M K RET (pc + 1) lo (.long (x.toUInt64 >>> (y.toInt64.toUInt64 &&& Int64.toUInt64 63)).toInt64 :: st) h k) : V M K RET pc lo (.int y :: .long x :: st) h k := by
  intro D ca A0 sa p l e s m args below meth c Q C hQ H locs ls hR hS hl
  exact lv_lushr C.1 C.2.1 hd rfl (kk D ca A0 sa p l e s m args below meth c Q C hQ H locs ls hR hS hl)
theorem V.lshl {M : mjM} {K : Nat × Nat} {RET : Option Value → mjH → Prop} {pc : Nat} {lo : List (Nat × Value)} {st : List Value} {h : mjH} {k : Nat × Nat} {x : Int64} {y : Int32} (hd : decode (mj_b M) pc = .ok (.lshl, 1)) (kk : V M K RET (pc + 1) lo (.long (x <<< (y.toInt64 &&& 63)) :: st) h k) : V M K RET pc lo (.int y :: .long x :: st) h k := by
  intro D ca A0 sa p l e s m args below meth c Q C hQ H locs ls hR hS hl
  exact lv_lshl C.1 C.2.1 hd rfl (kk D ca A0 sa p l e s m args below meth c Q C hQ H locs ls hR hS hl)
theorem V.lshr {M : mjM} {K : Nat × Nat} {RET : Option Value → mjH → Prop} {pc : Nat} {lo : List (Nat × Value)} {st : List Value} {h : mjH} {k : Nat × Nat} {x : Int64} {y : Int32} (hd : decode (mj_b M) pc = .ok (.lshr, 1)) (kk : V M K RET (pc + 1) lo (.long (x >>> (y.toInt64 &&& 63)) :: st) h k) : V M K RET pc lo (.int y :: .long x :: st) h k := by
  intro D ca A0 sa p l e s m args below meth c Q C hQ H locs ls hR hS hl
  exact lv_lshr C.1 C.2.1 hd rfl (kk D ca A0 sa p l e s m args below meth c Q C hQ H locs ls hR hS hl)
theorem V.lcmp {M : mjM} {K : Nat × Nat} {RET : Option Value → mjH → Prop} {pc : Nat} {lo : List (Nat × Value)} {st : List Value} {h : mjH} {k : Nat × Nat} {x y : Int64} (hd : decode (mj_b M) pc = .ok (.lcmp, 1)) (kk : V M K RET (pc + 1) lo (.int (lg_cmp x y) :: st) h k) : V M K RET pc lo (.long y :: .long x :: st) h k := by
  intro D ca A0 sa p l e s m args below meth c Q C hQ H locs ls hR hS hl
  exact W.lcmp C.1 C.2.1 hd (kk D ca A0 sa p l e s m args below meth c Q C hQ H locs ls hR hS hl)
theorem V.dup {M : mjM} {K : Nat × Nat} {RET : Option Value → mjH → Prop} {pc : Nat} {lo : List (Nat × Value)} {st : List Value} {h : mjH} {k : Nat × Nat} {va : Value} (hd : decode (mj_b M) pc = .ok (.dup, 1)) (hc : va.category = 1) (kk : V M K RET (pc + 1) lo (va :: va :: st) h k) : V M K RET pc lo (va :: st) h k := by
  intro D ca A0 sa p l e s m args below meth c Q C hQ H locs ls hR hS hl
  exact lv_dup C.1 C.2.1 hd ((mj_cat va).trans hc) (kk D ca A0 sa p l e s m args below meth c Q C hQ H locs ls hR hS hl)
theorem V.pop {M : mjM} {K : Nat × Nat} {RET : Option Value → mjH → Prop} {pc : Nat} {lo : List (Nat × Value)} {st : List Value} {h : mjH} {k : Nat × Nat} {va : Value} (hd : decode (mj_b M) pc = .ok (.pop, 1)) (hc : va.category = 1) (kk : V M K RET (pc + 1) lo st h k) : V M K RET pc lo (va :: st) h k := by
  intro D ca A0 sa p l e s m args below meth c Q C hQ H locs ls hR hS hl
  exact lv_pop C.1 C.2.1 hd ((mj_cat va).trans hc) (kk D ca A0 sa p l e s m args below meth c Q C hQ H locs ls hR hS hl)
theorem V.dup2 {M : mjM} {K : Nat × Nat} {RET : Option Value → mjH → Prop} {pc : Nat} {lo : List (Nat × Value)} {st : List Value} {h : mjH} {k : Nat × Nat} {va vb : Value} (hd : decode (mj_b M) pc = .ok (.dup2, 1)) (hc : va.category = 1) (hc2 : vb.category = 1) (kk : V M K RET (pc + 1) lo (va :: vb :: va :: vb :: st) h k) : V M K RET pc lo (va :: vb :: st) h k := by
  intro D ca A0 sa p l e s m args below meth c Q C hQ H locs ls hR hS hl
  exact lv_dup2_11 C.1 C.2.1 hd ((mj_cat va).trans hc) ((mj_cat vb).trans hc2) (kk D ca A0 sa p l e s m args below meth c Q C hQ H locs ls hR hS hl)
theorem V.goto {M : mjM} {K : Nat × Nat} {RET : Option Value → mjH → Prop} {pc : Nat} {lo : List (Nat × Value)} {st : List Value} {h : mjH} {k : Nat × Nat} {off : Int} {tgt : Nat} (hd : decode (mj_b M) pc = .ok (.goto off, 3)) (ht : (pc : Int) + off = (tgt : Int)) (kk : V M K RET tgt lo st h k) : V M K RET pc lo st h k := by
  intro D ca A0 sa p l e s m args below meth c Q C hQ H locs ls hR hS hl
  exact lv_goto C.1 C.2.1 hd ht (kk D ca A0 sa p l e s m args below meth c Q C hQ H locs ls hR hS hl)
theorem V.if_eq {M : mjM} {K : Nat × Nat} {RET : Option Value → mjH → Prop} {pc : Nat} {lo : List (Nat × Value)} {st : List Value} {h : mjH} {k : Nat × Nat} {x : Int32} {off : Int} {tgt : Nat} (hd : decode (mj_b M) pc = .ok (.ifCond .eq off, 3)) (ht : (pc : Int) + off = (tgt : Int)) (kt : x = 0 → V M K RET tgt lo st h k) (kf : ¬ x = 0 → V M K RET (pc + 3) lo st h k) : V M K RET pc lo (.int x :: st) h k := by
  intro D ca A0 sa p l e s m args below meth c Q C hQ H locs ls hR hS hl
  exact lv_if_eq C.1 C.2.1 hd ht (fun q => kt q D ca A0 sa p l e s m args below meth c Q C hQ H locs ls hR hS hl) (fun q => kf q D ca A0 sa p l e s m args below meth c Q C hQ H locs ls hR hS hl)
theorem V.lc_eq {M : mjM} {K : Nat × Nat} {RET : Option Value → mjH → Prop} {pc : Nat} {lo : List (Nat × Value)} {st : List Value} {h : mjH} {k : Nat × Nat} {x y : Int64} {off : Int} {tgt : Nat} (hd1 : decode (mj_b M) pc = .ok (.lcmp, 1)) (hd : decode (mj_b M) (pc + 1) = .ok (.ifCond .eq off, 3)) (ht : ((pc + 1 : Nat) : Int) + off = (tgt : Int)) (kt : x = y → V M K RET tgt lo st h k) (kf : ¬ x = y → V M K RET (pc + 1 + 3) lo st h k) : V M K RET pc lo (.long y :: .long x :: st) h k :=
  V.lcmp hd1 (V.if_eq hd ht (fun q => kt ((lg_cmp_eq x y).mp q)) (fun q => kf (fun z => q ((lg_cmp_eq x y).mpr z))))
theorem V.if_ne {M : mjM} {K : Nat × Nat} {RET : Option Value → mjH → Prop} {pc : Nat} {lo : List (Nat × Value)} {st : List Value} {h : mjH} {k : Nat × Nat} {x : Int32} {off : Int} {tgt : Nat} (hd : decode (mj_b M) pc = .ok (.ifCond .ne off, 3)) (ht : (pc : Int) + off = (tgt : Int)) (kt : ¬ x = 0 → V M K RET tgt lo st h k) (kf : x = 0 → V M K RET (pc + 3) lo st h k) : V M K RET pc lo (.int x :: st) h k := by
  intro D ca A0 sa p l e s m args below meth c Q C hQ H locs ls hR hS hl
  exact lv_if_ne C.1 C.2.1 hd ht (fun q => kt q D ca A0 sa p l e s m args below meth c Q C hQ H locs ls hR hS hl) (fun q => kf q D ca A0 sa p l e s m args below meth c Q C hQ H locs ls hR hS hl)
theorem V.lc_ne {M : mjM} {K : Nat × Nat} {RET : Option Value → mjH → Prop} {pc : Nat} {lo : List (Nat × Value)} {st : List Value} {h : mjH} {k : Nat × Nat} {x y : Int64} {off : Int} {tgt : Nat} (hd1 : decode (mj_b M) pc = .ok (.lcmp, 1)) (hd : decode (mj_b M) (pc + 1) = .ok (.ifCond .ne off, 3)) (ht : ((pc + 1 : Nat) : Int) + off = (tgt : Int)) (kt : ¬ x = y → V M K RET tgt lo st h k) (kf : x = y → V M K RET (pc + 1 + 3) lo st h k) : V M K RET pc lo (.long y :: .long x :: st) h k :=
  V.lcmp hd1 (V.if_ne hd ht (fun q => kt (fun z => q ((lg_cmp_eq x y).mpr z))) (fun q => kf ((lg_cmp_eq x y).mp q)))
theorem V.if_lt {M : mjM} {K : Nat × Nat} {RET : Option Value → mjH → Prop} {pc : Nat} {lo : List (Nat × Value)} {st : List Value} {h : mjH} {k : Nat × Nat} {x : Int32} {off : Int} {tgt : Nat} (hd : decode (mj_b M) pc = .ok (.ifCond .lt off, 3)) (ht : (pc : Int) + off = (tgt : Int)) (kt : x < 0 → V M K RET tgt lo st h k) (kf : ¬ x < 0 → V M K RET (pc + 3) lo st h k) : V M K RET pc lo (.int x :: st) h k := by
  intro D ca A0 sa p l e s m args below meth c Q C hQ H locs ls hR hS hl
  exact lv_if_lt C.1 C.2.1 hd ht (fun q => kt q D ca A0 sa p l e s m args below meth c Q C hQ H locs ls hR hS hl) (fun q => kf q D ca A0 sa p l e s m args below meth c Q C hQ H locs ls hR hS hl)
theorem V.lc_lt {M : mjM} {K : Nat × Nat} {RET : Option Value → mjH → Prop} {pc : Nat} {lo : List (Nat × Value)} {st : List Value} {h : mjH} {k : Nat × Nat} {x y : Int64} {off : Int} {tgt : Nat} (hd1 : decode (mj_b M) pc = .ok (.lcmp, 1)) (hd : decode (mj_b M) (pc + 1) = .ok (.ifCond .lt off, 3)) (ht : ((pc + 1 : Nat) : Int) + off = (tgt : Int)) (kt : x < y → V M K RET tgt lo st h k) (kf : ¬ x < y → V M K RET (pc + 1 + 3) lo st h k) : V M K RET pc lo (.long y :: .long x :: st) h k :=
  V.lcmp hd1 (V.if_lt hd ht (fun q => kt ((lg_cmp_lt x y).mp q)) (fun q => kf (fun z => q ((lg_cmp_lt x y).mpr z))))
theorem V.if_ge {M : mjM} {K : Nat × Nat} {RET : Option Value → mjH → Prop} {pc : Nat} {lo : List (Nat × Value)} {st : List Value} {h : mjH} {k : Nat × Nat} {x : Int32} {off : Int} {tgt : Nat} (hd : decode (mj_b M) pc = .ok (.ifCond .ge off, 3)) (ht : (pc : Int) + off = (tgt : Int)) (kt : 0 ≤ x → V M K RET tgt lo st h k) (kf : ¬ 0 ≤ x → V M K RET (pc + 3) lo st h k) : V M K RET pc lo (.int x :: st) h k := by
  intro D ca A0 sa p l e s m args below meth c Q C hQ H locs ls hR hS hl
  exact lv_if_ge C.1 C.2.1 hd ht (fun q => kt q D ca A0 sa p l e s m args below meth c Q C hQ H locs ls hR hS hl) (fun q => kf q D ca A0 sa p l e s m args below meth c Q C hQ H locs ls hR hS hl)
theorem V.lc_ge {M : mjM} {K : Nat × Nat} {RET : Option Value → mjH → Prop} {pc : Nat} {lo : List (Nat × Value)} {st : List Value} {h : mjH} {k : Nat × Nat} {x y : Int64} {off : Int} {tgt : Nat} (hd1 : decode (mj_b M) pc = .ok (.lcmp, 1)) (hd : decode (mj_b M) (pc + 1) = .ok (.ifCond .ge off, 3)) (ht : ((pc + 1 : Nat) : Int) + off = (tgt : Int)) (kt : y ≤ x → V M K RET tgt lo st h k) (kf : ¬ y ≤ x → V M K RET (pc + 1 + 3) lo st h k) : V M K RET pc lo (.long y :: .long x :: st) h k :=
  V.lcmp hd1 (V.if_ge hd ht (fun q => kt ((lg_cmp_ge x y).mp q)) (fun q => kf (fun z => q ((lg_cmp_ge x y).mpr z))))
theorem V.if_gt {M : mjM} {K : Nat × Nat} {RET : Option Value → mjH → Prop} {pc : Nat} {lo : List (Nat × Value)} {st : List Value} {h : mjH} {k : Nat × Nat} {x : Int32} {off : Int} {tgt : Nat} (hd : decode (mj_b M) pc = .ok (.ifCond .gt off, 3)) (ht : (pc : Int) + off = (tgt : Int)) (kt : 0 < x → V M K RET tgt lo st h k) (kf : ¬ 0 < x → V M K RET (pc + 3) lo st h k) : V M K RET pc lo (.int x :: st) h k := by
  intro D ca A0 sa p l e s m args below meth c Q C hQ H locs ls hR hS hl
  exact lv_if_gt C.1 C.2.1 hd ht (fun q => kt q D ca A0 sa p l e s m args below meth c Q C hQ H locs ls hR hS hl) (fun q => kf q D ca A0 sa p l e s m args below meth c Q C hQ H locs ls hR hS hl)
theorem V.lc_gt {M : mjM} {K : Nat × Nat} {RET : Option Value → mjH → Prop} {pc : Nat} {lo : List (Nat × Value)} {st : List Value} {h : mjH} {k : Nat × Nat} {x y : Int64} {off : Int} {tgt : Nat} (hd1 : decode (mj_b M) pc = .ok (.lcmp, 1)) (hd : decode (mj_b M) (pc + 1) = .ok (.ifCond .gt off, 3)) (ht : ((pc + 1 : Nat) : Int) + off = (tgt : Int)) (kt : y < x → V M K RET tgt lo st h k) (kf : ¬ y < x → V M K RET (pc + 1 + 3) lo st h k) : V M K RET pc lo (.long y :: .long x :: st) h k :=
  V.lcmp hd1 (V.if_gt hd ht (fun q => kt ((lg_cmp_gt x y).mp q)) (fun q => kf (fun z => q ((lg_cmp_gt x y).mpr z))))
theorem V.if_le {M : mjM} {K : Nat × Nat} {RET : Option Value → mjH → Prop} {pc : Nat} {lo : List (Nat × Value)} {st : List Value} {h : mjH} {k : Nat × Nat} {x : Int32} {off : Int} {tgt : Nat} (hd : decode (mj_b M) pc = .ok (.ifCond .le off, 3)) (ht : (pc : Int) + off = (tgt : Int)) (kt : x ≤ 0 → V M K RET tgt lo st h k) (kf : ¬ x ≤ 0 → V M K RET (pc + 3) lo st h k) : V M K RET pc lo (.int x :: st) h k := by
  intro D ca A0 sa p l e s m args below meth c Q C hQ H locs ls hR hS hl
  exact lv_if_le C.1 C.2.1 hd ht (fun q => kt q D ca A0 sa p l e s m args below meth c Q C hQ H locs ls hR hS hl) (fun q => kf q D ca A0 sa p l e s m args below meth c Q C hQ H locs ls hR hS hl)
theorem V.lc_le {M : mjM} {K : Nat × Nat} {RET : Option Value → mjH → Prop} {pc : Nat} {lo : List (Nat × Value)} {st : List Value} {h : mjH} {k : Nat × Nat} {x y : Int64} {off : Int} {tgt : Nat} (hd1 : decode (mj_b M) pc = .ok (.lcmp, 1)) (hd : decode (mj_b M) (pc + 1) = .ok (.ifCond .le off, 3)) (ht : ((pc + 1 : Nat) : Int) + off = (tgt : Int)) (kt : x ≤ y → V M K RET tgt lo st h k) (kf : ¬ x ≤ y → V M K RET (pc + 1 + 3) lo st h k) : V M K RET pc lo (.long y :: .long x :: st) h k :=
  V.lcmp hd1 (V.if_le hd ht (fun q => kt ((lg_cmp_le x y).mp q)) (fun q => kf (fun z => q ((lg_cmp_le x y).mpr z))))
theorem V.icmp_eq {M : mjM} {K : Nat × Nat} {RET : Option Value → mjH → Prop} {pc : Nat} {lo : List (Nat × Value)} {st : List Value} {h : mjH} {k : Nat × Nat} {x y : Int32} {off : Int} {tgt : Nat} (hd : decode (mj_b M) pc = .ok (.if_icmp .eq off, 3)) (ht : (pc : Int) + off = (tgt : Int)) (kt : x = y → V M K RET tgt lo st h k) (kf : ¬ x = y → V M K RET (pc + 3) lo st h k) : V M K RET pc lo (.int y :: .int x :: st) h k := by
  intro D ca A0 sa p l e s m args below meth c Q C hQ H locs ls hR hS hl
  exact lv_icmp_eq C.1 C.2.1 hd ht (fun q => kt q D ca A0 sa p l e s m args below meth c Q C hQ H locs ls hR hS hl) (fun q => kf q D ca A0 sa p l e s m args below meth c Q C hQ H locs ls hR hS hl)
theorem V.icmp_ne {M : mjM} {K : Nat × Nat} {RET : Option Value → mjH → Prop} {pc : Nat} {lo : List (Nat × Value)} {st : List Value} {h : mjH} {k : Nat × Nat} {x y : Int32} {off : Int} {tgt : Nat} (hd : decode (mj_b M) pc = .ok (.if_icmp .ne off, 3)) (ht : (pc : Int) + off = (tgt : Int)) (kt : ¬ x = y → V M K RET tgt lo st h k) (kf : x = y → V M K RET (pc + 3) lo st h k) : V M K RET pc lo (.int y :: .int x :: st) h k := by
  intro D ca A0 sa p l e s m args below meth c Q C hQ H locs ls hR hS hl
  exact lv_icmp_ne C.1 C.2.1 hd ht (fun q => kt q D ca A0 sa p l e s m args below meth c Q C hQ H locs ls hR hS hl) (fun q => kf q D ca A0 sa p l e s m args below meth c Q C hQ H locs ls hR hS hl)
theorem V.icmp_lt {M : mjM} {K : Nat × Nat} {RET : Option Value → mjH → Prop} {pc : Nat} {lo : List (Nat × Value)} {st : List Value} {h : mjH} {k : Nat × Nat} {x y : Int32} {off : Int} {tgt : Nat} (hd : decode (mj_b M) pc = .ok (.if_icmp .lt off, 3)) (ht : (pc : Int) + off = (tgt : Int)) (kt : x < y → V M K RET tgt lo st h k) (kf : ¬ x < y → V M K RET (pc + 3) lo st h k) : V M K RET pc lo (.int y :: .int x :: st) h k := by
  intro D ca A0 sa p l e s m args below meth c Q C hQ H locs ls hR hS hl
  exact lv_icmp_lt C.1 C.2.1 hd ht (fun q => kt q D ca A0 sa p l e s m args below meth c Q C hQ H locs ls hR hS hl) (fun q => kf q D ca A0 sa p l e s m args below meth c Q C hQ H locs ls hR hS hl)
theorem V.icmp_ge {M : mjM} {K : Nat × Nat} {RET : Option Value → mjH → Prop} {pc : Nat} {lo : List (Nat × Value)} {st : List Value} {h : mjH} {k : Nat × Nat} {x y : Int32} {off : Int} {tgt : Nat} (hd : decode (mj_b M) pc = .ok (.if_icmp .ge off, 3)) (ht : (pc : Int) + off = (tgt : Int)) (kt : y ≤ x → V M K RET tgt lo st h k) (kf : ¬ y ≤ x → V M K RET (pc + 3) lo st h k) : V M K RET pc lo (.int y :: .int x :: st) h k := by
  intro D ca A0 sa p l e s m args below meth c Q C hQ H locs ls hR hS hl
  exact lv_icmp_ge C.1 C.2.1 hd ht (fun q => kt q D ca A0 sa p l e s m args below meth c Q C hQ H locs ls hR hS hl) (fun q => kf q D ca A0 sa p l e s m args below meth c Q C hQ H locs ls hR hS hl)
theorem V.icmp_gt {M : mjM} {K : Nat × Nat} {RET : Option Value → mjH → Prop} {pc : Nat} {lo : List (Nat × Value)} {st : List Value} {h : mjH} {k : Nat × Nat} {x y : Int32} {off : Int} {tgt : Nat} (hd : decode (mj_b M) pc = .ok (.if_icmp .gt off, 3)) (ht : (pc : Int) + off = (tgt : Int)) (kt : y < x → V M K RET tgt lo st h k) (kf : ¬ y < x → V M K RET (pc + 3) lo st h k) : V M K RET pc lo (.int y :: .int x :: st) h k := by
  intro D ca A0 sa p l e s m args below meth c Q C hQ H locs ls hR hS hl
  exact lv_icmp_gt C.1 C.2.1 hd ht (fun q => kt q D ca A0 sa p l e s m args below meth c Q C hQ H locs ls hR hS hl) (fun q => kf q D ca A0 sa p l e s m args below meth c Q C hQ H locs ls hR hS hl)
theorem V.icmp_le {M : mjM} {K : Nat × Nat} {RET : Option Value → mjH → Prop} {pc : Nat} {lo : List (Nat × Value)} {st : List Value} {h : mjH} {k : Nat × Nat} {x y : Int32} {off : Int} {tgt : Nat} (hd : decode (mj_b M) pc = .ok (.if_icmp .le off, 3)) (ht : (pc : Int) + off = (tgt : Int)) (kt : x ≤ y → V M K RET tgt lo st h k) (kf : ¬ x ≤ y → V M K RET (pc + 3) lo st h k) : V M K RET pc lo (.int y :: .int x :: st) h k := by
  intro D ca A0 sa p l e s m args below meth c Q C hQ H locs ls hR hS hl
  exact lv_icmp_le C.1 C.2.1 hd ht (fun q => kt q D ca A0 sa p l e s m args below meth c Q C hQ H locs ls hR hS hl) (fun q => kf q D ca A0 sa p l e s m args below meth c Q C hQ H locs ls hR hS hl)
theorem V.ifnull {M : mjM} {K : Nat × Nat} {RET : Option Value → mjH → Prop} {pc : Nat} {lo : List (Nat × Value)} {st : List Value} {h : mjH} {k : Nat × Nat} {x : Nat} {off : Int} (hd : decode (mj_b M) pc = .ok (.ifnull off, 3)) (kk : V M K RET (pc + 3) lo st h k) : V M K RET pc lo (.ref x :: st) h k := by
  intro D ca A0 sa p l e s m args below meth c Q C hQ H locs ls hR hS hl
  exact lv_ifnull C.1 C.2.1 hd (kk D ca A0 sa p l e s m args below meth c Q C hQ H locs ls hR hS hl)
theorem V.ifnullN {M : mjM} {K : Nat × Nat} {RET : Option Value → mjH → Prop} {pc : Nat} {lo : List (Nat × Value)} {st : List Value} {h : mjH} {k : Nat × Nat} {off : Int} {tgt : Nat} (hd : decode (mj_b M) pc = .ok (.ifnull off, 3)) (ht : (pc : Int) + off = (tgt : Int)) (kk : V M K RET tgt lo st h k) : V M K RET pc lo (.null :: st) h k := by
  intro D ca A0 sa p l e s m args below meth c Q C hQ H locs ls hR hS hl
  exact lv_ifnullN C.1 C.2.1 hd ht (kk D ca A0 sa p l e s m args below meth c Q C hQ H locs ls hR hS hl)
theorem V.ifnonnull {M : mjM} {K : Nat × Nat} {RET : Option Value → mjH → Prop} {pc : Nat} {lo : List (Nat × Value)} {st : List Value} {h : mjH} {k : Nat × Nat} {x : Nat} {off : Int} {tgt : Nat} (hd : decode (mj_b M) pc = .ok (.ifnonnull off, 3)) (ht : (pc : Int) + off = (tgt : Int)) (kk : V M K RET tgt lo st h k) : V M K RET pc lo (.ref x :: st) h k := by
  intro D ca A0 sa p l e s m args below meth c Q C hQ H locs ls hR hS hl
  exact lv_ifnonnull C.1 C.2.1 hd ht (kk D ca A0 sa p l e s m args below meth c Q C hQ H locs ls hR hS hl)
theorem V.ifnonnullN {M : mjM} {K : Nat × Nat} {RET : Option Value → mjH → Prop} {pc : Nat} {lo : List (Nat × Value)} {st : List Value} {h : mjH} {k : Nat × Nat} {off : Int} (hd : decode (mj_b M) pc = .ok (.ifnonnull off, 3)) (kk : V M K RET (pc + 3) lo st h k) : V M K RET pc lo (.null :: st) h k := by
  intro D ca A0 sa p l e s m args below meth c Q C hQ H locs ls hR hS hl
  exact lv_ifnonnullN C.1 C.2.1 hd (kk D ca A0 sa p l e s m args below meth c Q C hQ H locs ls hR hS hl)
theorem V.tableIn {M : mjM} {K : Nat × Nat} {RET : Option Value → mjH → Prop} {pc : Nat} {lo : List (Nat × Value)} {st : List Value} {h : mjH} {k : Nat × Nat} {dflt lw hi : Int} {offs : Array Int} {len : Nat} {x : Int32} {off : Int} {tgt : Nat} (hd : decode (mj_b M) pc = .ok (.tableswitch dflt lw hi offs, len)) (h1 : ¬ x.toInt < lw) (h2 : ¬ hi < x.toInt) (ho : offs[(x.toInt - lw).toNat]? = some off) (ht : (pc : Int) + off = (tgt : Int)) (kk : V M K RET tgt lo st h k) : V M K RET pc lo (.int x :: st) h k := by
  intro D ca A0 sa p l e s m args below meth c Q C hQ H locs ls hR hS hl
  exact lv_tableIn C.1 C.2.1 hd h1 h2 ho ht (kk D ca A0 sa p l e s m args below meth c Q C hQ H locs ls hR hS hl)
theorem V.tableOut {M : mjM} {K : Nat × Nat} {RET : Option Value → mjH → Prop} {pc : Nat} {lo : List (Nat × Value)} {st : List Value} {h : mjH} {k : Nat × Nat} {dflt lw hi : Int} {offs : Array Int} {len : Nat} {x : Int32} {tgt : Nat} (hd : decode (mj_b M) pc = .ok (.tableswitch dflt lw hi offs, len)) (h1 : x.toInt < lw ∨ hi < x.toInt) (ht : (pc : Int) + dflt = (tgt : Int)) (kk : V M K RET tgt lo st h k) : V M K RET pc lo (.int x :: st) h k := by
  intro D ca A0 sa p l e s m args below meth c Q C hQ H locs ls hR hS hl
  exact lv_tableOut C.1 C.2.1 hd h1 ht (kk D ca A0 sa p l e s m args below meth c Q C hQ H locs ls hR hS hl)
end
