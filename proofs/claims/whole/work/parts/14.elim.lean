/-! rank, on naturals: two ways to clear below a pivot, one rank -/
def ww_J (u v : Nat) : Nat := u * 2 ^ v.log2 + (v - 2 ^ v.log2)
def ww_tab (B E : Nat → Nat) (T : Nat → Nat → Nat → Nat) (j : Nat) : Nat := ww_wt B E T (ww_J (j / 15 + 1) (j % 15 + 1))
def ww_sw (t : Nat → Nat) (f i : Nat) : Nat → Nat := fun j => if j / 15 = f then t (15 * i + j % 15) else if j / 15 = i then t (15 * f + j % 15) else t j
def ww_cX (t : Nat → Nat) (f c : Nat) : Nat → Nat := fun j => if f < j / 15 ∧ c ≤ j % 15 then (((t j * t (15 * f + c) : Nat) : Int) - ((t (15 * f + j % 15) * t (15 * (j / 15) + c) : Nat) : Int)).emod 997 |>.toNat else t j
def ww_cY (t : Nat → Nat) (f c : Nat) : Nat → Nat := fun j => if f < j / 15 then (t j + (997 - t (15 * (j / 15) + c) * ww_inv (t (15 * f + c)) % 997) * t (15 * f + j % 15)) % 997 else t j
def ww_pv (t : Nat → Nat) (c : Nat) : Nat → Nat → Nat
  | 0, i => i
  | d + 1, i => if t (15 * i + c) = 0 then ww_pv t c d (i + 1) else i
def ww_rX : Nat → Nat → Nat → (Nat → Nat) → Nat
  | 0, _, f, _ => f
  | d + 1, c, f, t => if ww_pv t c (15 - f) f < 15 then ww_rX d (c + 1) (f + 1) (ww_cX (ww_sw t f (ww_pv t c (15 - f) f)) f c) else ww_rX d (c + 1) f t
def ww_rY : Nat → Nat → Nat → (Nat → Nat) → Nat
  | 0, _, f, _ => f
  | d + 1, c, f, t => if ww_pv t c (15 - f) f < 15 then ww_rY d (c + 1) (f + 1) (ww_cY (ww_sw t f (ww_pv t c (15 - f) f)) f c) else ww_rY d (c + 1) f t
theorem ww_pv_le (t : Nat → Nat) (c : Nat) : ∀ d i, i ≤ ww_pv t c d i ∧ ww_pv t c d i ≤ i + d
  | 0, i => by simp [ww_pv]
  | d + 1, i => by
    have := ww_pv_le t c d (i + 1)
    simp only [ww_pv]
    split <;> omega
theorem ww_pv_nz (t : Nat → Nat) (c : Nat) : ∀ d i, ww_pv t c d i < i + d → t (15 * ww_pv t c d i + c) ≠ 0
  | 0, i => by simp [ww_pv]
  | d + 1, i => by
    have := ww_pv_nz t c d (i + 1)
    simp only [ww_pv]
    split
    · intro h
      exact this (by omega)
    · intro _
      assumption
theorem ww_pv_eq {x y : Nat → Nat} {c : Nat} : ∀ d i, (∀ k, i ≤ k → k < i + d → (x (15 * k + c) = 0 ↔ y (15 * k + c) = 0)) → ww_pv x c d i = ww_pv y c d i
  | 0, i, _ => rfl
  | d + 1, i, h => by
    have h0 := h i (by omega) (by omega)
    have h1 := ww_pv_eq d (i + 1) (fun k hk hk2 => h k (by omega) (by omega))
    simp only [ww_pv]
    by_cases z : x (15 * i + c) = 0
    · rw [if_pos z, if_pos (h0.mp z), h1]
    · rw [if_neg z, if_neg (fun w => z (h0.mpr w))]
def ww_V (f c : Nat) (x y : Nat → Nat) : Prop := ∀ i, f ≤ i → i < 15 → ∃ l : Int, ¬ (997 : Int) ∣ l ∧ ∀ k, c ≤ k → k < 15 → (997 : Int) ∣ (x (15 * i + k) : Int) - l * (y (15 * i + k) : Int)
theorem ww_V_z {f c : Nat} {x y : Nat → Nat} (hx : ∀ j, x j < 997) (hy : ∀ j, y j < 997) (V : ww_V f c x y) (hc : c < 15) : ∀ i, f ≤ i → i < 15 → (x (15 * i + c) = 0 ↔ y (15 * i + c) = 0) := by
  intro i h1 h2
  obtain ⟨l, hl, h⟩ := V i h1 h2
  have hk := h c (Nat.le_refl _) hc
  have bx := hx (15 * i + c)
  have bv := hy (15 * i + c)
  constructor
  · intro z
    rw [z] at hk
    have h3 : (997 : Int) ∣ l * (y (15 * i + c) : Int) := by omega
    have := ww_euc h3 hl
    omega
  · intro z
    rw [z] at hk
    simp at hk
    omega
theorem ww_nd {x y : Int} (hx : ¬ (997 : Int) ∣ x) (hy : ¬ (997 : Int) ∣ y) : ¬ (997 : Int) ∣ x * y := fun h => hy (ww_euc h hx)
theorem ww_sw_at (t : Nat → Nat) (f p i k : Nat) (hk : k < 15) : ww_sw t f p (15 * i + k) = t (15 * (if i = f then p else if i = p then f else i) + k) := by
  unfold ww_sw
  rw [show (15 * i + k) / 15 = i by omega, show (15 * i + k) % 15 = k by omega]
  split
  · rfl
  · split
    · rfl
    · rfl
theorem ww_sw_lt {t : Nat → Nat} (h : ∀ j, t j < 997) (f p : Nat) : ∀ j, ww_sw t f p j < 997 := by
  intro j
  unfold ww_sw
  split
  · exact h _
  · split
    · exact h _
    · exact h _
theorem ww_cX_lt {t : Nat → Nat} (h : ∀ j, t j < 997) (f p : Nat) : ∀ j, ww_cX t f p j < 997 := by
  intro j
  unfold ww_cX
  split
  · have := Int.emod_lt_of_pos (((t j * t (15 * f + p) : Nat) : Int) - ((t (15 * f + j % 15) * t (15 * (j / 15) + p) : Nat) : Int)) (show (0 : Int) < 997 by decide)
    have h2 := Int.emod_nonneg (((t j * t (15 * f + p) : Nat) : Int) - ((t (15 * f + j % 15) * t (15 * (j / 15) + p) : Nat) : Int)) (show (997 : Int) ≠ 0 by decide)
    show (_ % 997 : Int).toNat < 997
    omega
  · exact h j
theorem ww_cY_lt {t : Nat → Nat} (h : ∀ j, t j < 997) (f p : Nat) : ∀ j, ww_cY t f p j < 997 := by
  intro j
  unfold ww_cY
  split
  · exact Nat.mod_lt _ (by decide)
  · exact h j
theorem ww_V_sw {f c p : Nat} {x y : Nat → Nat} (V : ww_V f c x y) (hp : f ≤ p) (hp2 : p < 15) : ww_V f c (ww_sw x f p) (ww_sw y f p) := by
  intro i h1 h2
  obtain ⟨l, hl, h⟩ := V (if i = f then p else if i = p then f else i) (by split; omega; split <;> omega) (by split; omega; split <;> omega)
  refine ⟨l, hl, fun k hk hk2 => ?_⟩
  rw [ww_sw_at _ _ _ _ _ hk2, ww_sw_at _ _ _ _ _ hk2]
  exact h k hk hk2
theorem ww_alg (li lf y1 y2 yp yc b a1 a2 a3 a4 a5 a6 a7 a8 : Int) (e : yp * b = 1 + 997 * a8) : (li * y1 + 997 * a1) * (lf * yp + 997 * a3) - (lf * y2 + 997 * a2) * (li * yc + 997 * a4) - 997 * a5 - (li * lf * yp) * (y1 + (997 - (yc * b - 997 * a7)) * y2 - 997 * a6) = 997 * (li * y1 * a3 + lf * yp * a1 + 997 * a1 * a3 - lf * y2 * a4 - li * yc * a2 - 997 * a2 * a4 - a5 + a8 * li * lf * yc * y2 - li * lf * yp * (y2 + a7 * y2 - a6)) := by
  grind
theorem ww_mdq (z : Int) : ∃ t : Int, (((z.emod 997).toNat : Nat) : Int) = z - 997 * t := ⟨z / 997, by
  show (((z % 997).toNat : Nat) : Int) = _
  omega⟩
theorem ww_V_cl {f c : Nat} {x y : Nat → Nat} (hy : ∀ j, y j < 997) (V : ww_V f c x y) (hc : c < 15) (hf : f < 15) (hn : y (15 * f + c) ≠ 0) : ww_V (f + 1) (c + 1) (ww_cX x f c) (ww_cY y f c) := by
  intro i h1 h2
  obtain ⟨li, hli, Hi⟩ := V i (by omega) h2
  obtain ⟨lf, hlf, Hf⟩ := V f (Nat.le_refl _) hf
  have hyp : ¬ (997 : Int) ∣ (y (15 * f + c) : Int) := by
    have := hy (15 * f + c)
    omega
  refine ⟨li * lf * y (15 * f + c), ww_nd (ww_nd hli hlf) hyp, fun k hk hk2 => ?_⟩
  obtain ⟨a1, e1⟩ := Hi k (by omega) hk2
  obtain ⟨a2, e2⟩ := Hf k (by omega) hk2
  obtain ⟨a3, e3⟩ := Hf c (Nat.le_refl _) hc
  obtain ⟨a4, e4⟩ := Hi c (Nat.le_refl _) hc
  have ex : ww_cX x f c (15 * i + k) = ((((x (15 * i + k) * x (15 * f + c) : Nat) : Int) - ((x (15 * f + k) * x (15 * i + c) : Nat) : Int)).emod 997).toNat := by
    unfold ww_cX
    rw [show (15 * i + k) / 15 = i by omega, show (15 * i + k) % 15 = k by omega, if_pos (by omega)]
  have ey : ww_cY y f c (15 * i + k) = (y (15 * i + k) + (997 - y (15 * i + c) * ww_inv (y (15 * f + c)) % 997) * y (15 * f + k)) % 997 := by
    unfold ww_cY
    rw [show (15 * i + k) / 15 = i by omega, show (15 * i + k) % 15 = k by omega, if_pos (by omega)]
  obtain ⟨a5, e5⟩ := ww_mdq (((x (15 * i + k) * x (15 * f + c) : Nat) : Int) - ((x (15 * f + k) * x (15 * i + c) : Nat) : Int))
  obtain ⟨a7, e7⟩ := ww_cg (y (15 * i + c) * ww_inv (y (15 * f + c)))
  obtain ⟨a6, e6⟩ := ww_cg (y (15 * i + k) + (997 - y (15 * i + c) * ww_inv (y (15 * f + c)) % 997) * y (15 * f + k))
  have h8 := ww_inv_tab (y (15 * f + c)) (hy _) (by omega)
  obtain ⟨a8, e8⟩ : ∃ a8 : Int, (y (15 * f + c) : Int) * (ww_inv (y (15 * f + c)) : Int) = 1 + 997 * a8 := by
    refine ⟨((y (15 * f + c) * ww_inv (y (15 * f + c)) / 997 : Nat) : Int), ?_⟩
    rw [← Int.natCast_mul]
    omega
  have e9 : ((997 - y (15 * i + c) * ww_inv (y (15 * f + c)) % 997 : Nat) : Int) = 997 - ((y (15 * i + c) * ww_inv (y (15 * f + c)) % 997 : Nat) : Int) := by omega
  rw [ex, ey, e5, e6, Int.natCast_add, Int.natCast_mul (997 - _), e9, e7]
  simp only [Int.natCast_mul]
  have f1 : (x (15 * i + k) : Int) = li * y (15 * i + k) + 997 * a1 := by omega
  have f2 : (x (15 * f + k) : Int) = lf * y (15 * f + k) + 997 * a2 := by omega
  have f3 : (x (15 * f + c) : Int) = lf * y (15 * f + c) + 997 * a3 := by omega
  have f4 : (x (15 * i + c) : Int) = li * y (15 * i + c) + 997 * a4 := by omega
  rw [f1, f2, f3, f4]
  exact ⟨_, ww_alg li lf _ _ _ _ _ a1 a2 a3 a4 a5 a6 a7 a8 e8⟩
theorem ww_rank : ∀ (d c f : Nat) (x y : Nat → Nat), c + d = 15 → f ≤ c → (∀ j, x j < 997) → (∀ j, y j < 997) → ww_V f c x y → ww_rX d c f x = ww_rY d c f y
  | 0, _, _, _, _, _, _, _, _, _ => rfl
  | d + 1, c, f, x, y, h1, h2, hx, hy, V => by
    have hp : ww_pv x c (15 - f) f = ww_pv y c (15 - f) f := ww_pv_eq _ _ (fun k k1 k2 => ww_V_z hx hy V (by omega) k k1 (by omega))
    have hl := ww_pv_le y c (15 - f) f
    simp only [ww_rX, ww_rY]
    rw [hp]
    by_cases z : ww_pv y c (15 - f) f < 15
    · rw [if_pos z, if_pos z]
      have nz := ww_pv_nz y c (15 - f) f (by omega)
      refine ww_rank d (c + 1) (f + 1) _ _ (by omega) (by omega) (ww_cX_lt (ww_sw_lt hx _ _) _ _) (ww_cY_lt (ww_sw_lt hy _ _) _ _) (ww_V_cl (ww_sw_lt hy _ _) (ww_V_sw V hl.1 z) (by omega) (by omega) ?_)
      rw [ww_sw_at _ _ _ _ _ (by omega), if_pos rfl]
      exact nz
    · rw [if_neg z, if_neg z]
      refine ww_rank d (c + 1) f _ _ (by omega) (by omega) hx hy (fun i i1 i2 => ?_)
      obtain ⟨l, hl, h⟩ := V i i1 i2
      exact ⟨l, hl, fun k k1 k2 => h k (by omega) k2⟩
theorem ww_rank0 (t : Nat → Nat) (h : ∀ j, t j < 997) : ww_rX 15 0 0 t = ww_rY 15 0 0 t :=
  ww_rank 15 0 0 t t (by omega) (by omega) h h (fun i _ _ => ⟨1, by omega, fun k _ _ => ⟨0, by omega⟩⟩)
