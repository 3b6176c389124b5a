/-! THE READER: its state; a term ends; the class -/
variable {S : List mjD} {I : Nat → Nat → Int32} {L : Nat → Nat → Int64}
/-- where it stands, negative?, amount, place, the place before, what was read -/
abbrev rdS : Type := Nat × Bool × Nat × Nat × Nat × (Nat → Int64)
def rst (r : rdS) : Nat := r.1
def rng (r : rdS) : Bool := r.2.1
def ram (r : rdS) : Nat := r.2.2.1
def rpl (r : rdS) : Nat := r.2.2.2.1
def rlm (r : rdS) : Nat := r.2.2.2.2.1
def rrw (r : rdS) : Nat → Int64 := r.2.2.2.2.2
def rvl (r : rdS) : Int64 := if rng r then -(lN (ram r)) else lN (ram r)
def rEnd (r : rdS) : rdS := (rst r, rng r, ram r, rpl r, rpl r, fun t => if t = rpl r then rvl r else rrw r t)
/-- the class's picture of it -/
def rdR (p : Nat) (r : rdS) (I : Nat → Nat → Int32) (L : Nat → Nat → Int64) : Prop := I p 1 = nI (rst r) ∧ I p 2 = (if rng r then -1 else 1) ∧ (2 ≤ rst r → I p 3 = nI (ram r)) ∧ (2 ≤ rst r → I p 4 = nI (rpl r)) ∧ I p 5 = nI (rlm r) ∧ ∀ t, t < 6 → L (p + 1 + 1) t = rrw r t
theorem rvl_eq {r : rdS} (h : ram r ≤ 999) : ((if rng r then (-1 : Int32) else 1) * nI (ram r)).toInt64 = rvl r := by
  unfold rvl
  generalize ram r = n at *
  cases rng r with
  | false =>
    rw [if_neg (by decide), if_neg (by decide), Int32.one_mul, nI_l (by omega)]
  | true =>
    rw [if_pos rfl, if_pos rfl]
    have : ∀ n, n < 1000 → ((-1 : Int32) * nI n).toInt64 = -(lN n) := by decide +kernel
    exact this n (by omega)
section
variable {p : Nat}
theorem c_endTerm {r : rdS} (hp : is_Reader S p) (h : rdR p r I L) (hpl : rpl r < 6) (ham : ram r ≤ 999) (hst : 2 ≤ rst r) : ∃ I1 L1, CTv mr_X6_endTerm [.ref p] S I L I1 L1 ∧ rdR p (rEnd r) I1 L1 ∧ (∀ b, b ≠ p → I1 b = I b) ∧ ∀ b, b ≠ p + 1 + 1 → L1 b = L b := by
  obtain ⟨h1, h2, h3, h4, h5, h6⟩ := h
  have hs := s_set (S := S) (I := I) (L := L) (p := p + 1) hp.2 hpl (rvl r)
  refine ⟨mj_up I p 5 (nI (rpl r)), mj_up L (p + 1 + 1) (rpl r) (rvl r), wp_X6_endTerm hp ⟨_, _, by rw [h4 hst, h2, h3 hst, rvl_eq ham]; exact hs, rfl, by rw [h4 hst]⟩, ⟨?_, ?_, ?_, ?_, ?_, fun t ht => ?_⟩, fun b hb => up_ne hb, fun b hb => up_ne hb⟩
  · rw [up_nk (by decide)]; exact h1
  · rw [up_nk (by decide)]; exact h2
  · exact fun z => by rw [up_nk (by decide)]; exact h3 z
  · exact fun z => by rw [up_nk (by decide)]; exact h4 z
  · rw [up_eq]; rfl
  · show mj_up L (p + 1 + 1) (rpl r) (rvl r) (p + 1 + 1) t = if t = rpl r then rvl r else rrw r t
    by_cases e : t = rpl r
    · rw [if_pos e, e, up_eq]
    · rw [if_neg e, up_nk e]; exact h6 t ht
end
