/-! DIGESTS: the small pieces -/
variable {S : List mjD} {I : Nat → Nat → Int32} {L : Nat → Nat → Int64}
/-- k codes from the place i on are mixed in -/
def mixN (g : Nat → Int32) : Nat → Nat → Int64 → Int64
  | _, 0, s => s
  | i, k + 1, s => mixN g (i + 1) k (((31 : Int64) * s) + (g i).toInt64)
theorem c_digestLine {q n : Nat} {f : Nat → Int32} (hq : is_Line S q) (h1 : I q 1 = nI n) (h2 : ∀ k, k < n → I (q + 1) k = f k) (hn : n ≤ 40) (s : Int64) : CTl mr_X8_digestLine [.long s, .ref q] S I L (mixN f 0 n s) I L := by
  have key : ∀ k i, i + k = n → ∀ t, mixN f i k t = mixN f 0 n s → hd_X8_digestLine_5 S (fun v h => v = some (.long (mixN f 0 n s)) ∧ h = (S, I, L)) q t (nI i) I L := by
    intro k
    induction k with
    | zero =>
      intro i hi t ht
      refine it_X8_digestLine_5 hq ?_
      rw [h1]
      exact ge_t (by omega) (by omega) ⟨by rw [← ht]; rfl, rfl⟩
    | succ k ih =>
      intro i hi t ht
      refine it_X8_digestLine_5 hq ?_
      rw [h1]
      refine ge_f (by omega) (by omega) ⟨_, _, _, c_codeAt hq h1 h2 hn (show i < n by omega), fun y hy z hz => ?_⟩
      rw [hy, hz, nI_1]
      exact ih (i + 1) (by omega) _ ht
  exact wp_X8_digestLine hq (key n 0 (by omega) s rfl)
section
variable {m : Nat} {A : aS}
theorem m_mix (hm : is_Model S m) {s : Int64} (hs : L m 57 = s) (a : Int64) : CTv mr_X9_mix [.ref m, .long a] S I L I (mj_up L m 57 (((31 : Int64) * s) + a)) := wp_X9_mix hm ⟨rfl, by rw [hs]⟩
/-- only the digest changes -/
theorem IM_57 {s : Int64} (h : IM m A I L) : IM m A I (mj_up L m 57 s) := IM_sc h ⟨fun b hb => ⟨rfl, up_ne (by omega)⟩, fun _ _ => rfl⟩ (cache_eq h.2.2.2.2.2.2 rfl rfl rfl rfl (up_ne (by omega)) (up_ne (by omega)))
end
