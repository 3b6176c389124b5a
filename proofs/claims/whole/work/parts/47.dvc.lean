/-! HOW MANY DIVISORS numbers up to 24975 have -/
def dvc (N : Nat) : Nat → Nat
  | 0 => 0
  | k + 1 => dvc N k + (if 1 ≤ k ∧ N % k = 0 then 1 else 0)
theorem dvc_mono (N : Nat) {a : Nat} : ∀ j, dvc N a ≤ dvc N (a + j)
  | 0 => Nat.le_refl _
  | j + 1 => Nat.le_trans (dvc_mono N j) (Nat.le_add_right _ _)
theorem dvc_le (N : Nat) {a b : Nat} (h : a ≤ b) : dvc N a ≤ dvc N b := by
  have := dvc_mono N (a := a) (b - a)
  rwa [show a + (b - a) = b by omega] at this
theorem dvc_pair {N : Nat} : ∀ j k, k + j = N + 1 → 1 ≤ k → dvc N (N + 1) ≤ dvc N k + dvc N (N / k + 1)
  | 0, k, h, _ => by
    have : k = N + 1 := by omega
    rw [this]; exact Nat.le_add_right _ _
  | j + 1, k, h, h1 => by
    have ih := dvc_pair (N := N) j (k + 1) (by omega) (by omega)
    have e : dvc N (k + 1) = dvc N k + (if 1 ≤ k ∧ N % k = 0 then 1 else 0) := rfl
    have hle : N / (k + 1) ≤ N / k := Nat.div_le_div_left (by omega) (by omega)
    by_cases hm : N % k = 0
    · rw [if_pos ⟨h1, hm⟩] at e
      have hk : k * (N / k) = N := Nat.mul_div_cancel' (Nat.dvd_of_mod_eq_zero hm)
      have hw : 1 ≤ N / k := Nat.div_pos (by omega) (by omega)
      have hlt : N / (k + 1) < N / k := by
        rw [Nat.div_lt_iff_lt_mul (by omega), Nat.mul_add, Nat.mul_one, Nat.mul_comm]
        omega
      have e2 : dvc N (N / k + 1) = dvc N (N / k) + (if 1 ≤ N / k ∧ N % (N / k) = 0 then 1 else 0) := rfl
      rw [if_pos ⟨hw, Nat.mod_eq_zero_of_dvd ⟨k, by rw [Nat.mul_comm]; exact hk.symm⟩⟩] at e2
      have := dvc_le N (a := N / (k + 1) + 1) (b := N / k) (by omega)
      omega
    · rw [if_neg (fun z => hm z.2)] at e
      have := dvc_le N (a := N / (k + 1) + 1) (b := N / k + 1) (by omega)
      omega
/-- digits to the base 256 -/
def DD (x : Nat → Nat) : Nat → Nat
  | 0 => 0
  | K + 1 => x 0 + 256 * DD (fun i => x (i + 1)) K
theorem DD_congr {x y : Nat → Nat} : ∀ K, (∀ i, i < K → x i = y i) → DD x K = DD y K
  | 0, _ => rfl
  | K + 1, h => by rw [DD, DD, h 0 (by omega), DD_congr K (fun i hi => h (i + 1) (by omega))]
theorem DD_add (x y : Nat → Nat) : ∀ K, DD (fun i => x i + y i) K = DD x K + DD y K
  | 0 => rfl
  | K + 1 => by
    rw [DD, DD, DD, DD_add (fun i => x (i + 1)) (fun i => y (i + 1)) K]; omega
theorem DD_zero {x : Nat → Nat} : ∀ K, (∀ i, i < K → x i = 0) → DD x K = 0
  | 0, _ => rfl
  | K + 1, h => by rw [DD, h 0 (by omega), DD_zero K (fun i hi => h (i + 1) (by omega))]
theorem DD_cat : ∀ (a : Nat) (x : Nat → Nat) (b : Nat), DD x (a + b) = DD x a + 256 ^ a * DD (fun i => x (i + a)) b
  | 0, x, b => by simp [DD]
  | a + 1, x, b => by
    rw [show a + 1 + b = (a + b) + 1 by omega, DD, DD_cat a (fun i => x (i + 1)) b, DD, Nat.pow_succ, Nat.mul_add]
    have e : DD (fun i => x (i + a + 1)) b = DD (fun i => x (i + (a + 1))) b := DD_congr b (fun i _ => by rw [Nat.add_assoc])
    rw [e, Nat.mul_comm (256 ^ a) 256, Nat.mul_assoc, Nat.add_assoc]
theorem DD_dig : ∀ (i K : Nat) (x : Nat → Nat), (∀ j, j < K → x j < 256) → i < K → DD x K / 256 ^ i % 256 = x i
  | _, 0, _, _, h => by omega
  | 0, K + 1, x, hx, _ => by
    have := hx 0 (by omega)
    rw [DD, Nat.pow_zero, Nat.div_one]; omega
  | i + 1, K + 1, x, hx, h => by
    have h0 := hx 0 (by omega)
    rw [DD, Nat.pow_succ, Nat.mul_comm (256 ^ i) 256, ← Nat.div_div_eq_div_mul, show (x 0 + 256 * DD (fun i => x (i + 1)) K) / 256 = DD (fun i => x (i + 1)) K by omega]
    exact DD_dig i K (fun i => x (i + 1)) (fun j hj => hx (j + 1) (by omega)) (by omega)
def dvf (v N : Nat) : Nat := if N % v = 0 then 1 else 0
def geo (v n : Nat) : Nat := (256 ^ (v * n) - 1) / (256 ^ v - 1)
theorem DD_one {v : Nat} (hv : 1 ≤ v) : DD (dvf v) v = 1 := by
  obtain ⟨w, rfl⟩ : ∃ w, v = w + 1 := ⟨v - 1, by omega⟩
  rw [DD, DD_zero w (fun i hi => by
    unfold dvf
    rw [if_neg (by rw [Nat.mod_eq_of_lt (by omega)]; omega)])]
  unfold dvf
  rw [Nat.zero_mod, if_pos rfl]
theorem geo_DD {v : Nat} (hv : 1 ≤ v) : ∀ n, DD (dvf v) (v * n) * (256 ^ v - 1) + 1 = 256 ^ (v * n)
  | 0 => by rw [Nat.mul_zero, Nat.pow_zero, DD, Nat.zero_mul]
  | n + 1 => by
    have ih := geo_DD hv n
    have e : DD (fun i => dvf v (i + v)) (v * n) = DD (dvf v) (v * n) := DD_congr _ (fun i _ => by unfold dvf; rw [Nat.add_mod_right])
    have hB : 256 ^ v = (256 ^ v - 1) + 1 := by
      have : 1 ≤ 256 ^ v := Nat.pow_pos (by decide)
      omega
    rw [show v * (n + 1) = v + v * n by rw [Nat.mul_succ, Nat.add_comm], DD_cat, DD_one hv, e, Nat.pow_add, ← ih]
    generalize 256 ^ v - 1 = c at hB
    rw [hB]
    generalize DD (dvf v) (v * n) = Y
    rw [Nat.add_mul, Nat.one_mul, Nat.mul_add, Nat.mul_one, Nat.mul_assoc]; omega
theorem geo_eq {v : Nat} (hv : 1 ≤ v) (n : Nat) : geo v n = DD (dvf v) (v * n) := by
  have h := geo_DD hv n
  have hp : 0 < 256 ^ v - 1 := by
    have : 256 ^ 1 ≤ 256 ^ v := Nat.pow_le_pow_right (by decide) hv
    omega
  unfold geo
  rw [← h, Nat.add_sub_cancel]
  exact Nat.mul_div_cancel _ hp
def dvK (v : Nat) : Nat := 24976 / v + 1
def sumv : Nat → Nat
  | 0 => 0
  | k + 1 => sumv k + geo (k + 1) (dvK (k + 1))
def cntv : Nat → Nat → Nat
  | 0, _ => 0
  | k + 1, N => cntv k N + (if N < (k + 1) * dvK (k + 1) then dvf (k + 1) N else 0)
theorem sumv_DD : ∀ k, k ≤ 158 → sumv k = DD (cntv k) 25200
  | 0, _ => (DD_zero 25200 (fun _ _ => rfl)).symm
  | k + 1, h => by
    have hL : (k + 1) * dvK (k + 1) ≤ 25200 := by
      unfold dvK
      have := Nat.mul_div_le 24976 (k + 1)
      rw [Nat.mul_add, Nat.mul_one]; omega
    have e : DD (fun N => if N < (k + 1) * dvK (k + 1) then dvf (k + 1) N else 0) 25200 = geo (k + 1) (dvK (k + 1)) := by
      rw [geo_eq (by omega)]
      generalize (k + 1) * dvK (k + 1) = Lg at hL
      obtain ⟨b, hb⟩ : ∃ b, 25200 = Lg + b := ⟨25200 - Lg, by omega⟩
      rw [hb, DD_cat, DD_zero b (fun i _ => by rw [if_neg (by omega)]), Nat.mul_zero, Nat.add_zero]
      exact DD_congr _ (fun i hi => by rw [if_pos hi])
    rw [sumv, sumv_DD k (by omega), ← e, ← DD_add]
    rfl
theorem cntv_le : ∀ k N, cntv k N ≤ k
  | 0, _ => Nat.le_refl _
  | k + 1, N => by
    have := cntv_le k N
    have h2 : (if N < (k + 1) * dvK (k + 1) then dvf (k + 1) N else 0) ≤ 1 := by
      split
      · unfold dvf; split <;> omega
      · omega
    rw [cntv]; omega
theorem cntv_dvc {N : Nat} (hN : N ≤ 24975) : ∀ k, cntv k N = dvc N (k + 1)
  | 0 => by
    show 0 = dvc N 0 + (if 1 ≤ 0 ∧ N % 0 = 0 then 1 else 0)
    rw [if_neg (by omega)]; rfl
  | k + 1 => by
    have hlt : N < (k + 1) * dvK (k + 1) := by
      unfold dvK
      have := Nat.lt_mul_div_succ 24976 (show 0 < k + 1 by omega)
      omega
    show cntv k N + _ = dvc N (k + 1) + (if 1 ≤ k + 1 ∧ N % (k + 1) = 0 then 1 else 0)
    rw [cntv_dvc hN k, if_pos hlt]
    unfold dvf
    by_cases h : N % (k + 1) = 0
    · rw [if_pos h, if_pos ⟨by omega, h⟩]
    · rw [if_neg h, if_neg (fun z => h z.2)]
def chk : Nat → Nat → Bool
  | 0, X => Nat.ble (X % 256) 64
  | k + 1, X => chk k (X % 256 ^ 2 ^ k) && chk k (X / 256 ^ 2 ^ k)
theorem chk_of : ∀ k X, chk k X = true → ∀ i, i < 2 ^ k → X / 256 ^ i % 256 ≤ 64
  | 0, X, h, i, hi => by
    obtain rfl : i = 0 := by omega
    rw [Nat.pow_zero, Nat.div_one]; exact Nat.le_of_ble_eq_true h
  | k + 1, X, h, i, hi => by
    rw [chk, Bool.and_eq_true] at h
    rcases Nat.lt_or_ge i (2 ^ k) with c | c
    · have := chk_of k _ h.1 i c
      have e : 256 ^ 2 ^ k = 256 ^ i * (256 * 256 ^ (2 ^ k - i - 1)) := by
        rw [← Nat.pow_succ', ← Nat.pow_add]; congr 1; omega
      rw [e, Nat.mod_mul_right_div_self, Nat.mod_mul_right_mod] at this
      exact this
    · have := chk_of k _ h.2 (i - 2 ^ k) (by rw [Nat.pow_succ] at hi; omega)
      rw [Nat.div_div_eq_div_mul, ← Nat.pow_add, show 2 ^ k + (i - 2 ^ k) = i by omega] at this
      exact this
set_option maxRecDepth 100000 in
theorem dvc_tab : chk 15 (sumv 158 / 256) = true := by decide +kernel
theorem dvc_64 {N : Nat} (h1 : 1 ≤ N) (h : N ≤ 24975) : dvc N 159 ≤ 64 := by
  have h2 := chk_of 15 _ dvc_tab (N - 1) (by
    have : 2 ^ 15 = 32768 := by decide
    omega)
  rw [Nat.div_div_eq_div_mul, ← Nat.pow_succ', show (N - 1).succ = N by omega, sumv_DD 158 (Nat.le_refl _), DD_dig N 25200 (cntv 158) (fun j _ => by have := cntv_le 158 j; omega) (by omega), cntv_dvc h] at h2
  exact h2
theorem dvc_128 {N : Nat} (h1 : 1 ≤ N) (h : N ≤ 24975) : dvc N (N + 1) ≤ 128 := by
  have h2 := dvc_64 h1 h
  rcases Nat.lt_or_ge N 158 with c | c
  · have := dvc_le N (a := N + 1) (b := 159) (by omega)
    omega
  · have h2 := dvc_pair (N := N) (N + 1 - 158) 158 (by omega) (by decide)
    have h3 : N / 158 ≤ 158 := by omega
    have h4 := dvc_le N (a := N / 158 + 1) (b := 159) (by omega)
    have h5 := dvc_le N (a := 158) (b := 159) (by omega)
    omega
