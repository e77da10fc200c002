/-! weights, on naturals -/
def ww_sm (f : Nat → Nat) : Nat → Nat
  | 0 => 0
  | k + 1 => ww_sm f k + f k
def ww_go (M : Nat → Nat → Nat) (v : Nat → Nat) : Nat → Nat := fun q => ww_sm (fun p => v p * M p q) 4 % 997
def ww_fin (E : Nat → Nat) (v : Nat → Nat) : Nat := ww_sm (fun q => v q * E q) 4 % 997
def ww_run (T : Nat → Nat → Nat → Nat) : List Nat → (Nat → Nat) → (Nat → Nat)
  | [], v => v
  | c :: w, v => ww_run T w (ww_go (T c) v)
def ww_bits (c : Nat) : Nat → List Nat
  | 0 => []
  | k + 1 => (c / 2 ^ k % 2) :: ww_bits c k
def ww_wt (B E : Nat → Nat) (T : Nat → Nat → Nat → Nat) (c : Nat) : Nat := ww_fin E (ww_run T (ww_bits c c.log2) B)
theorem ww_sm_le {f : Nat → Nat} {K : Nat} (h : ∀ p, f p ≤ K) : ∀ k, ww_sm f k ≤ k * K
  | 0 => by simp [ww_sm]
  | k + 1 => by
    have h1 := ww_sm_le h k
    have h2 := h k
    rw [ww_sm, Nat.add_mul]
    omega
theorem ww_sm_z {f : Nat → Nat} {n : Nat} (h : ∀ p, n ≤ p → f p = 0) : ∀ d, ww_sm f (n + d) = ww_sm f n
  | 0 => rfl
  | d + 1 => by
    have h1 := ww_sm_z h d
    show ww_sm f (n + d) + f (n + d) = _
    rw [h1, h _ (by omega)]
    rfl
theorem ww_sm_4 {f : Nat → Nat} {n : Nat} (hn : n ≤ 4) (h : ∀ p, n ≤ p → f p = 0) : ww_sm f n = ww_sm f 4 := by
  have := ww_sm_z h (4 - n)
  rw [show n + (4 - n) = 4 by omega] at this
  exact this.symm
theorem ww_sm_add (f g : Nat → Nat) : ∀ k, ww_sm f k + ww_sm g k = ww_sm (fun p => f p + g p) k
  | 0 => rfl
  | k + 1 => by
    have h := ww_sm_add f g k
    simp only [ww_sm]
    omega
theorem ww_sm_e {f g : Nat → Nat} {k : Nat} (h : ∀ p, p < k → f p = g p) : ww_sm f k = ww_sm g k := by
  induction k with
  | zero => rfl
  | succ k ih =>
    simp only [ww_sm]
    rw [ih (fun p hp => h p (by omega)), h k (by omega)]
theorem ww_mul_le {a b x y : Nat} (ha : a ≤ x) (hb : b ≤ y) : a * b ≤ x * y := Nat.mul_le_mul ha hb
theorem ww_go_lt (M : Nat → Nat → Nat) (v : Nat → Nat) (q : Nat) : ww_go M v q < 997 := Nat.mod_lt _ (by decide)
theorem ww_fin_lt (E v : Nat → Nat) : ww_fin E v < 997 := Nat.mod_lt _ (by decide)
theorem ww_wt_lt (B E : Nat → Nat) (T : Nat → Nat → Nat → Nat) (c : Nat) : ww_wt B E T c < 997 := ww_fin_lt _ _
theorem ww_acc (s x m : Nat) : (s % 997 + x * (m % 997)) % 997 = (s + x * m) % 997 := by
  rw [Nat.add_mod (s % 997), Nat.mod_mod, Nat.mul_mod, Nat.mod_mod, ← Nat.mul_mod, ← Nat.add_mod]
theorem ww_acc1 (s x : Nat) : (s % 997 + x) % 997 = (s + x) % 997 := by omega
theorem ww_log (c i : Nat) (hc : 1 ≤ c) : c / 2 ^ i = 0 ↔ c.log2 < i := by
  rw [Nat.log2_lt (by omega), Nat.div_eq_zero_iff_lt (Nat.two_pow_pos i)]
theorem ww_log12 (c : Nat) (hc : 1 ≤ c) (h : c < 4096) : c.log2 < 12 := (Nat.log2_lt (by omega)).mpr h
