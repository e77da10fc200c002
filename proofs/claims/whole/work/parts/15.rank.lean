/-! rank: the walks -/
theorem ww_Jr : ∀ u, u < 16 → ∀ v, v < 16 → 1 ≤ u → 1 ≤ v → 1 ≤ ww_J u v ∧ ww_J u v < 4096 := by decide +kernel
theorem ww_JX : ∀ u, u < 16 → ∀ v, v < 16 → 1 ≤ v → (nI u <<< (nI v.log2 &&& 31)) + (nI v - ((1 : Int32) <<< (nI v.log2 &&& 31))) = nI (ww_J u v) := by decide +kernel
theorem ww_JY : ∀ u, u < 16 → ∀ v, v < 16 → 1 ≤ v → (nI u <<< (nI v.log2 &&& 31)) ||| (nI v &&& (((1 : Int32) <<< (nI v.log2 &&& 31)) - 1)) = nI (ww_J u v) := by decide +kernel
theorem ww_ixY (r i : Nat) : (15 : Int32) * (nI (r + 1) - 1) + nI (i + 1) - 1 = nI (15 * r + i) := by
  rw [nI_pred, ix_15, ← Nat.add_assoc, nI_pred]
theorem xx_joined {post : Int32 → Prop} (u v : Nat) (hu : u < 16) (hv : v < 16) (h1 : 1 ≤ v) (H : post (nI (ww_J u v))) : wpX_joinedCode post (nI u) (nI v) := by
  refine xx_len v h1 (by omega) (nm_e ?_)
  rw [ww_JX u hu v hv h1]
  exact H
section
variable {a n : Nat} {B E : Nat → Nat} {T : Nat → Nat → Nat → Nat} {sz st en tr : Nat → Int32}
theorem xx_fill {post : SX → Prop} (ha : a < 3) (ok : ww_OK n B E T) (ax : ww_AX a n B E T sz st en tr) (re rn tb : Nat → Int32) (H : ∀ re' rn' tb', (∀ j, j < 225 → tb' j = nI (ww_tab B E T j)) → post (sz, st, en, tr, re', rn', tb')) : wpX_fillTable post (sz, st, en, tr, re, rn, tb) (nI a) := by
  have k2 : ∀ (J2 : Int32 → (Nat → Int32) → (Nat → Int32) → (Nat → Int32) → (Nat → Int32) → (Nat → Int32) → (Nat → Int32) → (Nat → Int32) → Prop) (r : Nat), r < 15 → ∀ tb0, (∀ re' rn' tb', ww_W (fun j => j / 15 = r) (fun j => nI (ww_tab B E T j)) tb0 tb' → J2 (nI (r + 1)) sz st en tr re' rn' tb') → ∀ d i re' rn' tb', i + d = 15 → ww_W (fun j => j / 15 = r ∧ j % 15 < i) (fun j => nI (ww_tab B E T j)) tb0 tb' → wX_fillTable_10 post J2 (nI a) (nI r) (d + 1) (nI i) sz st en tr re' rn' tb' := by
    intro J2 r hr tb0 HJ d
    induction d with
    | zero =>
      intro i re' rn' tb' hi hw
      exact pk_le 15 i (fun _ => nm_r (nI_1 r) (HJ re' rn' tb' (ww_Wi hw (fun j => by omega)))) (fun h => by omega)
    | succ d ih =>
      intro i re' rn' tb' hi hw
      refine pk_le 15 i (fun h => by omega) (fun h => ?_)
      rw [nI_1 r, nI_1 i]
      refine xx_joined (r + 1) (i + 1) (by omega) (by omega) (by omega) ?_
      have hJ := ww_Jr (r + 1) (by omega) (i + 1) (by omega) (by omega) (by omega)
      refine xx_wo ha ok ax re' rn' tb' _ hJ.1 hJ.2 (fun re1 rn1 => ?_)
      refine ww_put (15 * r + i) (ix_15 r i) (by omega) (by decide) (nm_e (ih (i + 1) _ _ _ (by omega) (ww_W1 hw ?_ (fun j => by omega))))
      unfold ww_tab
      rw [show (15 * r + i) / 15 = r by omega, show (15 * r + i) % 15 = i by omega]
  have k1 : ∀ d i re' rn' tb', i + d = 15 → ww_W (fun j => j / 15 < i) (fun j => nI (ww_tab B E T j)) tb tb' → wX_fillTable_2 post (nI a) (d + 1) (nI i) sz st en tr re' rn' tb' := by
    intro d
    induction d with
    | zero =>
      intro i re' rn' tb' hi hw
      exact pk_le 15 i (fun _ => H re' rn' tb' (fun j hj => (hw j).1 (by omega))) (fun h => by omega)
    | succ d ih =>
      intro i re' rn' tb' hi hw
      refine pk_le 15 i (fun h => by omega) (fun h => ⟨16, ?_⟩)
      exact k2 _ i h tb' (fun re1 rn1 tb1 hw1 => ih (i + 1) re1 rn1 tb1 (by omega) (ww_WW hw hw1 (fun j => by omega))) 15 0 re' rn' tb' (by omega) (ww_W0 (fun j => by omega))
  exact ⟨16, k1 15 0 re rn tb (by omega) (ww_W0 (fun j => by omega))⟩
theorem yy_fill {post : Int32 → SY → Prop} (ha : a < 3) (ok : ww_OK n B E T) (ay : ww_AY a n B E T sz st en tr) (re rn tb : Nat → Int32) (H : ∀ re' rn' tb', (∀ j, j < 225 → tb' j = nI (ww_tab B E T j)) → ∃ n86, wY_rank_86 post n86 0 0 sz st en tr re' rn' tb') : ∃ n12, wY_rank_12 post (nI a) n12 1 sz st en tr re rn tb := by
  have k2 : ∀ (J12 : Int32 → (Nat → Int32) → (Nat → Int32) → (Nat → Int32) → (Nat → Int32) → (Nat → Int32) → (Nat → Int32) → (Nat → Int32) → Prop) (r : Nat), r < 15 → ∀ tb0, (∀ re' rn' tb', ww_W (fun j => j / 15 = r) (fun j => nI (ww_tab B E T j)) tb0 tb' → J12 (nI (r + 1 + 1)) sz st en tr re' rn' tb') → ∀ d i re' rn' tb', i + d = 15 → ww_W (fun j => j / 15 = r ∧ j % 15 < i) (fun j => nI (ww_tab B E T j)) tb0 tb' → wY_rank_20 post J12 (nI a) (nI (r + 1)) (d + 1) (nI (i + 1)) sz st en tr re' rn' tb' := by
    intro J12 r hr tb0 HJ d
    induction d with
    | zero =>
      intro i re' rn' tb' hi hw
      exact pk_le 16 (i + 1) (fun _ => nm_r (nI_1 (r + 1)) (HJ re' rn' tb' (ww_Wi hw (fun j => by omega)))) (fun h => by omega)
    | succ d ih =>
      intro i re' rn' tb' hi hw
      refine pk_le 16 (i + 1) (fun h => by omega) (fun h => ?_)
      refine yy_len _ (i + 1) (by omega) (by omega) (nm_r (ww_JY (r + 1) (by omega) (i + 1) (by omega) (by omega)) ?_)
      have hJ := ww_Jr (r + 1) (by omega) (i + 1) (by omega) (by omega) (by omega)
      refine yy_wo ha ok ay re' rn' tb' _ hJ.1 hJ.2 (fun re1 rn1 => ?_)
      refine ww_put (15 * r + i) (ww_ixY r i) (by omega) (by decide) (nm_r (nI_1 (i + 1)) (ih (i + 1) _ _ _ (by omega) (ww_W1 hw ?_ (fun j => by omega))))
      unfold ww_tab
      rw [show (15 * r + i) / 15 = r by omega, show (15 * r + i) % 15 = i by omega]
  have k1 : ∀ d i re' rn' tb', i + d = 15 → ww_W (fun j => j / 15 < i) (fun j => nI (ww_tab B E T j)) tb tb' → wY_rank_12 post (nI a) (d + 1) (nI (i + 1)) sz st en tr re' rn' tb' := by
    intro d
    induction d with
    | zero =>
      intro i re' rn' tb' hi hw
      exact pk_le 16 (i + 1) (fun _ => H re' rn' tb' (fun j hj => (hw j).1 (by omega))) (fun h => by omega)
    | succ d ih =>
      intro i re' rn' tb' hi hw
      refine pk_le 16 (i + 1) (fun h => by omega) (fun h => ⟨16, ?_⟩)
      exact k2 _ i (by omega) tb' (fun re1 rn1 tb1 hw1 => ih (i + 1) re1 rn1 tb1 (by omega) (ww_WW hw hw1 (fun j => by omega))) 15 0 re' rn' tb' (by omega) (ww_W0 (fun j => by omega))
  exact ⟨16, k1 15 0 re rn tb (by omega) (ww_W0 (fun j => by omega))⟩
end
section
variable {sz st en tr re rn : Nat → Int32} {t : Nat → Nat}
theorem xx_pv {post : Int32 → Prop} (tb : Nat → Int32) (ht : ∀ j, t j < 997) (hp : ∀ j, j < 225 → tb j = nI (t j)) (f c : Nat) (hf : f ≤ 15) (hc : c < 15) (H1 : ww_pv t c (15 - f) f < 15 → post (nI (ww_pv t c (15 - f) f))) (H2 : ¬ ww_pv t c (15 - f) f < 15 → post (-1)) : wpX_pivotRow post (sz, st, en, tr, re, rn, tb) (nI f) (nI c) := by
  have key : ∀ d i, i + d = 15 → (ww_pv t c d i < 15 → post (nI (ww_pv t c d i))) → (¬ ww_pv t c d i < 15 → post (-1)) → wX_pivotRow_2 post (nI c) sz st en tr re rn tb (d + 1) (nI i) := by
    intro d
    induction d with
    | zero =>
      intro i hi g1 g2
      refine pk_le 15 i (fun _ => g2 ?_) (fun h => by omega)
      simp only [ww_pv]
      omega
    | succ d ih =>
      intro i hi g1 g2
      have hb := ht (15 * i + c)
      refine pk_le 15 i (fun h => by omega) (fun h => ⟨pk_in (15 * i + c) 225 (by omega) (ix_15 i c), ?_⟩)
      refine pk_eq (t (15 * i + c)) 0 (fun z => nm_r (nI_1 i) (ih (i + 1) (by omega) ?_ ?_)) (fun z => ?_) (hx := ww_rd (15 * i + c) (ix_15 i c) (by omega) (hp _ (by omega)))
      · simp only [ww_pv, if_pos z] at g1
        exact g1
      · simp only [ww_pv, if_pos z] at g2
        exact g2
      · simp only [ww_pv, if_neg z] at g1
        exact g1 h
  exact ⟨15 - f + 1, key (15 - f) f (by omega) H1 H2⟩
theorem yy_pv {post : Int32 → Prop} (tb : Nat → Int32) (ht : ∀ j, t j < 997) (hp : ∀ j, j < 225 → tb j = nI (t j)) (f c : Nat) (hf : f ≤ 15) (hc : c < 15) (H1 : ww_pv t c (15 - f) f < 15 → post (nI (ww_pv t c (15 - f) f))) (H2 : ¬ ww_pv t c (15 - f) f < 15 → post (-1)) : wpY_pivot post (sz, st, en, tr, re, rn, tb) (nI f) (nI c) := by
  have key : ∀ d i, i + d = 15 → (ww_pv t c d i < 15 → post (nI (ww_pv t c d i))) → (¬ ww_pv t c d i < 15 → post (-1)) → wY_pivot_2 post (nI c) sz st en tr re rn tb (d + 1) (nI i) := by
    intro d
    induction d with
    | zero =>
      intro i hi g1 g2
      refine pk_le 15 i (fun _ => g2 ?_) (fun h => by omega)
      simp only [ww_pv]
      omega
    | succ d ih =>
      intro i hi g1 g2
      have hb := ht (15 * i + c)
      refine pk_le 15 i (fun h => by omega) (fun h => ⟨pk_in (15 * i + c) 225 (by omega) (ix_15 i c), ?_⟩)
      refine pk_eq (t (15 * i + c)) 0 (fun z => nm_r (nI_1 i) (ih (i + 1) (by omega) ?_ ?_)) (fun z => ?_) (hx := ww_rd (15 * i + c) (ix_15 i c) (by omega) (hp _ (by omega)))
      · simp only [ww_pv, if_pos z] at g1
        exact g1
      · simp only [ww_pv, if_pos z] at g2
        exact g2
      · simp only [ww_pv, if_neg z] at g1
        exact g1 h
  exact ⟨15 - f + 1, key (15 - f) f (by omega) H1 H2⟩
/-- one column of a swap -/
theorem ww_swk {tb : Nat → Int32} {f i k : Nat} (hf : f < 15) (hi : i < 15) (hk : k < 15) (h : ∀ j, j < 225 → tb j = nI (if j % 15 < k then ww_sw t f i j else t j)) : ∀ j, j < 225 → upd (upd tb (15 * f + k) (nI (t (15 * i + k)))) (15 * i + k) (nI (t (15 * f + k))) j = nI (if j % 15 < k + 1 then ww_sw t f i j else t j) := by
  intro j hj
  by_cases e1 : j = 15 * i + k
  · rw [e1, pk_us, if_pos (by omega), ww_sw_at _ _ _ _ _ hk]
    by_cases e2 : i = f
    · rw [if_pos e2, e2]
    · rw [if_neg e2, if_pos rfl]
  · rw [pk_un e1]
    by_cases e2 : j = 15 * f + k
    · rw [e2, pk_us, if_pos (by omega), ww_sw_at _ _ _ _ _ hk, if_pos rfl]
    · rw [pk_un e2, h j hj]
      by_cases e3 : j % 15 = k
      · rw [if_neg (by omega), if_pos (by omega)]
        unfold ww_sw
        rw [if_neg (by omega), if_neg (by omega)]
      · by_cases e4 : j % 15 < k
        · rw [if_pos e4, if_pos (by omega)]
        · rw [if_neg e4, if_neg (by omega)]
theorem xx_sw {post : SX → Prop} (tb : Nat → Int32) (hp : ∀ j, j < 225 → tb j = nI (t j)) (f i : Nat) (hf : f < 15) (hi : i < 15) (H : ∀ tb', (∀ j, j < 225 → tb' j = nI (ww_sw t f i j)) → post (sz, st, en, tr, re, rn, tb')) : wpX_swapRows post (sz, st, en, tr, re, rn, tb) (nI f) (nI i) := by
  have key : ∀ d k tb', k + d = 15 → (∀ j, j < 225 → tb' j = nI (if j % 15 < k then ww_sw t f i j else t j)) → wX_swapRows_2 post (nI f) (nI i) (d + 1) (nI k) sz st en tr re rn tb' := by
    intro d
    induction d with
    | zero =>
      intro k tb' hk h
      refine pk_le 15 k (fun _ => H tb' (fun j hj => ?_)) (fun h => by omega)
      have := h j hj
      rw [if_pos (by omega)] at this
      exact this
    | succ d ih =>
      intro k tb' hk h
      have v1 : vp_in (15 * nI f + nI k) 225 := pk_in (15 * f + k) 225 (by omega) (ix_15 f k)
      have v2 : vp_in (15 * nI i + nI k) 225 := pk_in (15 * i + k) 225 (by omega) (ix_15 i k)
      have t1 : tb' (15 * f + k) = nI (t (15 * f + k)) := by
        have := h (15 * f + k) (by omega)
        rw [if_neg (by omega)] at this
        exact this
      have t2 : tb' (15 * i + k) = nI (t (15 * i + k)) := by
        have := h (15 * i + k) (by omega)
        rw [if_neg (by omega)] at this
        exact this
      refine pk_le 15 k (fun h => by omega) (fun _ => ⟨v1, nm_r (ww_rd (15 * f + k) (ix_15 f k) (by omega) t1) ⟨v2, ?_⟩⟩)
      rw [ww_rd (15 * i + k) (ix_15 i k) (by omega) t2]
      refine ww_put (15 * f + k) (ix_15 f k) (by omega) (by decide) (ww_put (15 * i + k) (ix_15 i k) (by omega) (by decide) (nm_r (nI_1 k) (ih (k + 1) _ (by omega) ?_)))
      exact ww_swk hf hi (by omega) h
  exact ⟨16, key 15 0 tb (by omega) (fun j hj => by rw [if_neg (by omega)]; exact hp j hj)⟩
theorem yy_sw {post : SY → Prop} (tb : Nat → Int32) (hp : ∀ j, j < 225 → tb j = nI (t j)) (f i : Nat) (hf : f < 15) (hi : i < 15) (H : ∀ tb', (∀ j, j < 225 → tb' j = nI (ww_sw t f i j)) → post (sz, st, en, tr, re, rn, tb')) : wpY_exchange post (sz, st, en, tr, re, rn, tb) (nI f) (nI i) := by
  have key : ∀ d k tb', k + d = 15 → (∀ j, j < 225 → tb' j = nI (if j % 15 < k then ww_sw t f i j else t j)) → wY_exchange_2 post (nI f) (nI i) (d + 1) (nI k) sz st en tr re rn tb' := by
    intro d
    induction d with
    | zero =>
      intro k tb' hk h
      refine pk_le 15 k (fun _ => H tb' (fun j hj => ?_)) (fun h => by omega)
      have := h j hj
      rw [if_pos (by omega)] at this
      exact this
    | succ d ih =>
      intro k tb' hk h
      have v1 : vp_in (15 * nI f + nI k) 225 := pk_in (15 * f + k) 225 (by omega) (ix_15 f k)
      have v2 : vp_in (15 * nI i + nI k) 225 := pk_in (15 * i + k) 225 (by omega) (ix_15 i k)
      have t1 : tb' (15 * f + k) = nI (t (15 * f + k)) := by
        have := h (15 * f + k) (by omega)
        rw [if_neg (by omega)] at this
        exact this
      have t2 : tb' (15 * i + k) = nI (t (15 * i + k)) := by
        have := h (15 * i + k) (by omega)
        rw [if_neg (by omega)] at this
        exact this
      refine pk_le 15 k (fun h => by omega) (fun _ => ⟨v1, nm_r (ww_rd (15 * f + k) (ix_15 f k) (by omega) t1) ⟨v2, ?_⟩⟩)
      rw [ww_rd (15 * i + k) (ix_15 i k) (by omega) t2]
      refine ww_put (15 * f + k) (ix_15 f k) (by omega) (by decide) (ww_put (15 * i + k) (ix_15 i k) (by omega) (by decide) (nm_r (nI_1 k) (ih (k + 1) _ (by omega) ?_)))
      exact ww_swk hf hi (by omega) h
  exact ⟨16, key 15 0 tb (by omega) (fun j hj => by rw [if_neg (by omega)]; exact hp j hj)⟩
theorem ww_pr {x y : Nat} (hx : x < 997) (hy : y < 997) : x * y ≤ 996 * 996 := Nat.mul_le_mul (Nat.le_of_lt_succ hx) (Nat.le_of_lt_succ hy)
theorem xx_cl {post : SX → Prop} (tb : Nat → Int32) (ht : ∀ j, t j < 997) (hp : ∀ j, j < 225 → tb j = nI (t j)) (f c : Nat) (hf : f < 15) (hc : c < 15) (H : ∀ tb', (∀ j, j < 225 → tb' j = nI (ww_cX t f c j)) → post (sz, st, en, tr, re, rn, tb')) : wpX_clearBelow post (sz, st, en, tr, re, rn, tb) (nI f) (nI c) := by
  have k2 : ∀ (J17 : Int32 → (Nat → Int32) → (Nat → Int32) → (Nat → Int32) → (Nat → Int32) → (Nat → Int32) → (Nat → Int32) → (Nat → Int32) → Prop) (r : Nat), f < r → r < 15 → ∀ tb0, (∀ k, k < 15 → tb0 (15 * r + k) = nI (t (15 * r + k)) ∧ tb0 (15 * f + k) = nI (t (15 * f + k))) → (∀ tb', ww_W (fun j => j / 15 = r ∧ c ≤ j % 15) (fun j => nI (ww_cX t f c j)) tb0 tb' → J17 (nI (r + 1)) sz st en tr re rn tb') → ∀ d k tb', k + d = 15 → c ≤ k → ww_W (fun j => j / 15 = r ∧ c ≤ j % 15 ∧ j % 15 < k) (fun j => nI (ww_cX t f c j)) tb0 tb' → wX_clearBelow_41 post J17 (nI f) (nI c) (nI (t (15 * f + c))) (nI r) (nI (t (15 * r + c))) (d + 1) (nI k) sz st en tr re rn tb' := by
    intro J17 r hr hr2 tb0 h0 HJ d
    induction d with
    | zero =>
      intro k tb' hk hck hw
      exact pk_le 15 k (fun _ => nm_r (nI_1 r) (HJ tb' (ww_Wi hw (fun j => by omega)))) (fun h => by omega)
    | succ d ih =>
      intro k tb' hk hck hw
      have b1 := ww_pr (ht (15 * r + k)) (ht (15 * f + c))
      have b2 := ww_pr (ht (15 * f + k)) (ht (15 * r + c))
      have t1 : tb' (15 * r + k) = nI (t (15 * r + k)) := ((hw _).2 (by omega)).trans (h0 k (by omega)).1
      have t2 : tb' (15 * f + k) = nI (t (15 * f + k)) := ((hw _).2 (by omega)).trans (h0 k (by omega)).2
      have v1 : vp_in (15 * nI r + nI k) 225 := pk_in (15 * r + k) 225 (by omega) (ix_15 r k)
      have v2 : vp_in (15 * nI f + nI k) 225 := pk_in (15 * f + k) 225 (by omega) (ix_15 f k)
      refine pk_le 15 k (fun h => by omega) (fun h => ⟨v1, nm_r (e' := nI (t (15 * r + k) * t (15 * f + c))) (by rw [ww_rd (15 * r + k) (ix_15 r k) (by omega) t1, pk_mul]) ⟨v2, nm_r (e' := nI (t (15 * f + k) * t (15 * r + c))) (by rw [ww_rd (15 * f + k) (ix_15 f k) (by omega) t2, pk_mul]) ?_⟩⟩)
      refine xx_residue _ ?_
      refine ww_put (15 * r + k) (ix_15 r k) (by omega) (by decide) (nm_r (nI_1 k) (ih (k + 1) _ (by omega) (by omega) (ww_W1 hw ?_ (fun j => by omega))))
      apply congrArg nI
      unfold ww_md ww_cX
      rw [show (15 * r + k) / 15 = r by omega, show (15 * r + k) % 15 = k by omega, if_pos (by omega), pk_sub_toInt (by omega) (by omega)]
      rfl
  have k1 : ∀ d r tb', r + d = 15 → f < r → ww_W (fun j => f < j / 15 ∧ j / 15 < r ∧ c ≤ j % 15) (fun j => nI (ww_cX t f c j)) tb tb' → wX_clearBelow_17 post (nI f) (nI c) (nI (t (15 * f + c))) (d + 1) (nI r) sz st en tr re rn tb' := by
    intro d
    induction d with
    | zero =>
      intro r tb' hr hfr hw
      refine pk_le 15 r (fun _ => H tb' (fun j hj => ?_)) (fun h => by omega)
      by_cases z : f < j / 15 ∧ c ≤ j % 15
      · exact (hw j).1 (by omega)
      · rw [(hw j).2 (by omega), hp j hj]
        unfold ww_cX
        rw [if_neg z]
    | succ d ih =>
      intro r tb' hr hfr hw
      have t1 : ∀ k, k < 15 → tb' (15 * r + k) = nI (t (15 * r + k)) := fun k hk => ((hw _).2 (by omega)).trans (hp _ (by omega))
      have t2 : ∀ k, k < 15 → tb' (15 * f + k) = nI (t (15 * f + k)) := fun k hk => ((hw _).2 (by omega)).trans (hp _ (by omega))
      refine pk_le 15 r (fun h => by omega) (fun h => ⟨pk_in (15 * r + c) 225 (by omega) (ix_15 r c), nm_r (ww_rd (15 * r + c) (ix_15 r c) (by omega) (t1 c hc)) ⟨15 - c + 1, ?_⟩⟩)
      exact k2 _ r hfr h tb' (fun k hk => ⟨t1 k hk, t2 k hk⟩) (fun tb1 hw1 => ih (r + 1) tb1 (by omega) (by omega) (ww_WW hw hw1 (fun j => by omega))) (15 - c) c tb' (by omega) (Nat.le_refl _) (ww_W0 (fun j => by omega))
  refine ⟨pk_in (15 * f + c) 225 (by omega) (ix_15 f c), nm_r (ww_rd (15 * f + c) (ix_15 f c) (by omega) (hp _ (by omega))) (nm_r (nI_1 f) ⟨15 - (f + 1) + 1, ?_⟩)⟩
  exact k1 (15 - (f + 1)) (f + 1) tb (by omega) (by omega) (ww_W0 (fun j => by omega))
theorem ww_inv1 {v k : Nat} (hk : k < 997) (hv : v < 997) (h1 : 1 ≤ v) (h : v * k % 997 = 1) : k = ww_inv v := by
  have h2 := ww_inv_tab v hv h1
  have h3 := ww_inv_lt v
  have e1 : (k * (v * ww_inv v)) % 997 = k := by
    rw [Nat.mul_mod, h2, Nat.mul_one, Nat.mod_mod, Nat.mod_eq_of_lt hk]
  have e2 : (ww_inv v * (v * k)) % 997 = ww_inv v := by
    rw [Nat.mul_mod, h, Nat.mul_one, Nat.mod_mod, Nat.mod_eq_of_lt h3]
  have e3 : k * (v * ww_inv v) = ww_inv v * (v * k) := by
    rw [Nat.mul_comm k, Nat.mul_assoc, Nat.mul_left_comm]
  rw [e3, e2] at e1
  exact e1.symm
theorem yy_inv {post : Int32 → Prop} (tb : Nat → Int32) (v : Nat) (hv : v < 997) (h1 : 1 ≤ v) (H : post (nI (ww_inv v))) : wpY_inverse post (sz, st, en, tr, re, rn, tb) (nI v) := by
  have hl := ww_inv_lt v
  have hp : 1 ≤ ww_inv v := by
    have := ww_inv_tab v hv h1
    cases e : ww_inv v with
    | zero => rw [e] at this; simp at this
    | succ m => omega
  have key : ∀ d i, i + d = ww_inv v → 1 ≤ i → wY_inverse_2 post (nI v) sz st en tr re rn tb (d + 1) (nI i) := by
    intro d
    induction d with
    | zero =>
      intro i hi hi1
      have e : i = ww_inv v := by omega
      have b := ww_pr hv (show i < 997 by omega)
      refine pk_le 997 i (fun h => by omega) (fun h => ⟨ww_ne997, ?_⟩)
      refine pk_eq (v * i % 997) 1 (fun _ => by rw [e]; exact H) (fun z => (z (by rw [e]; exact ww_inv_tab v hv h1)).elim) (hx := by rw [pk_mul, ww_rem _ (by omega)])
    | succ d ih =>
      intro i hi hi1
      have b := ww_pr hv (show i < 997 by omega)
      refine pk_le 997 i (fun h => by omega) (fun h => ⟨ww_ne997, ?_⟩)
      refine pk_eq (v * i % 997) 1 (fun z => by have := ww_inv1 h hv h1 z; omega) (fun z => nm_r (nI_1 i) (ih (i + 1) (by omega) (by omega))) (hx := by rw [pk_mul, ww_rem _ (by omega)])
  exact ⟨ww_inv v - 1 + 1, key (ww_inv v - 1) 1 (by omega) (by omega)⟩
theorem ww_997s {x : Nat} (h : x ≤ 997) : (997 : Int32) - nI x = nI (997 - x) := pk_sub (a := 997) h
theorem yy_cl {post : SY → Prop} (tb : Nat → Int32) (ht : ∀ j, t j < 997) (hp : ∀ j, j < 225 → tb j = nI (t j)) (f c : Nat) (hf : f < 15) (hc : c < 15) (hn : t (15 * f + c) ≠ 0) (H : ∀ tb', (∀ j, j < 225 → tb' j = nI (ww_cY t f c j)) → post (sz, st, en, tr, re, rn, tb')) : wpY_clear post (sz, st, en, tr, re, rn, tb) (nI f) (nI c) := by
  have hil := ww_inv_lt (t (15 * f + c))
  have k2 : ∀ (J21 : Int32 → (Nat → Int32) → (Nat → Int32) → (Nat → Int32) → (Nat → Int32) → (Nat → Int32) → (Nat → Int32) → (Nat → Int32) → Prop) (r : Nat), f < r → r < 15 → ∀ tb0, (∀ k, k < 15 → tb0 (15 * r + k) = nI (t (15 * r + k)) ∧ tb0 (15 * f + k) = nI (t (15 * f + k))) → (∀ tb', ww_W (fun j => j / 15 = r) (fun j => nI (ww_cY t f c j)) tb0 tb' → J21 (nI (r + 1)) sz st en tr re rn tb') → ∀ d k tb', k + d = 15 → ww_W (fun j => j / 15 = r ∧ j % 15 < k) (fun j => nI (ww_cY t f c j)) tb0 tb' → wY_clear_51 post J21 (nI f) (nI c) (nI (ww_inv (t (15 * f + c)))) (nI r) (nI (t (15 * r + c) * ww_inv (t (15 * f + c)) % 997)) (d + 1) (nI k) sz st en tr re rn tb' := by
    intro J21 r hr hr2 tb0 h0 HJ d
    induction d with
    | zero =>
      intro k tb' hk hw
      exact pk_le 15 k (fun _ => nm_r (nI_1 r) (HJ tb' (ww_Wi hw (fun j => by omega)))) (fun h => by omega)
    | succ d ih =>
      intro k tb' hk hw
      have b0 := ht (15 * r + k)
      have b2 : (997 - t (15 * r + c) * ww_inv (t (15 * f + c)) % 997) * t (15 * f + k) ≤ 997 * 996 := Nat.mul_le_mul (Nat.sub_le _ _) (Nat.le_of_lt_succ (ht _))
      have t1 : tb' (15 * r + k) = nI (t (15 * r + k)) := ((hw _).2 (by omega)).trans (h0 k (by omega)).1
      have t2 : tb' (15 * f + k) = nI (t (15 * f + k)) := ((hw _).2 (by omega)).trans (h0 k (by omega)).2
      have v1 : vp_in (15 * nI r + nI k) 225 := pk_in (15 * r + k) 225 (by omega) (ix_15 r k)
      have v2 : vp_in (15 * nI f + nI k) 225 := pk_in (15 * f + k) 225 (by omega) (ix_15 f k)
      refine pk_le 15 k (fun h => by omega) (fun h => ⟨v1, v2, ww_ne997, ?_⟩)
      refine ww_put (15 * r + k) (ix_15 r k) (by omega) (by decide) (nm_r (nI_1 k) (ih (k + 1) _ (by omega) (ww_W1 hw ?_ (fun j => by omega))))
      rw [ww_rd (15 * r + k) (ix_15 r k) (by omega) t1, ww_rd (15 * f + k) (ix_15 f k) (by omega) t2, ww_997s (by omega), pk_mul, nI_add, ww_rem _ (by omega)]
      unfold ww_cY
      rw [show (15 * r + k) / 15 = r by omega, show (15 * r + k) % 15 = k by omega, if_pos hr]
  have k1 : ∀ d r tb', r + d = 15 → f < r → ww_W (fun j => f < j / 15 ∧ j / 15 < r) (fun j => nI (ww_cY t f c j)) tb tb' → wY_clear_21 post (nI f) (nI c) (nI (ww_inv (t (15 * f + c)))) (d + 1) (nI r) sz st en tr re rn tb' := by
    intro d
    induction d with
    | zero =>
      intro r tb' hr hfr hw
      refine pk_le 15 r (fun _ => H tb' (fun j hj => ?_)) (fun h => by omega)
      by_cases z : f < j / 15
      · exact (hw j).1 (by omega)
      · rw [(hw j).2 (by omega), hp j hj]
        unfold ww_cY
        rw [if_neg z]
    | succ d ih =>
      intro r tb' hr hfr hw
      have b1 := ww_pr (ht (15 * r + c)) hil
      have t1 : ∀ k, k < 15 → tb' (15 * r + k) = nI (t (15 * r + k)) := fun k hk => ((hw _).2 (by omega)).trans (hp _ (by omega))
      have t2 : ∀ k, k < 15 → tb' (15 * f + k) = nI (t (15 * f + k)) := fun k hk => ((hw _).2 (by omega)).trans (hp _ (by omega))
      refine pk_le 15 r (fun h => by omega) (fun h => ⟨pk_in (15 * r + c) 225 (by omega) (ix_15 r c), ww_ne997, nm_r (by rw [ww_rd (15 * r + c) (ix_15 r c) (by omega) (t1 c hc), pk_mul, ww_rem _ (by omega)]) ⟨16, ?_⟩⟩)
      exact k2 _ r hfr h tb' (fun k hk => ⟨t1 k hk, t2 k hk⟩) (fun tb1 hw1 => ih (r + 1) tb1 (by omega) (by omega) (ww_WW hw hw1 (fun j => by omega))) 15 0 tb' (by omega) (ww_W0 (fun j => by omega))
  refine ⟨pk_in (15 * f + c) 225 (by omega) (ix_15 f c), ?_⟩
  rw [ww_rd (15 * f + c) (ix_15 f c) (by omega) (hp _ (by omega))]
  refine yy_inv tb (t (15 * f + c)) (ht _) (by omega) (nm_r (nI_1 f) ⟨15 - (f + 1) + 1, ?_⟩)
  exact k1 (15 - (f + 1)) (f + 1) tb (by omega) (by omega) (ww_W0 (fun j => by omega))
end
section
variable {sz st en tr re rn : Nat → Int32}
theorem xx_tr {post : Int32 → SX → Prop} : ∀ (d c f : Nat) (t : Nat → Nat) (tb : Nat → Int32), c + d = 15 → f ≤ c → (∀ j, t j < 997) → (∀ j, j < 225 → tb j = nI (t j)) → (∀ tb', post (nI (ww_rX d c f t)) (sz, st, en, tr, re, rn, tb')) → wX_tableRank_4 post (d + 1) (nI f) (nI c) sz st en tr re rn tb := by
  intro d
  induction d with
  | zero =>
    intro c f t tb hd hfc ht hp H
    exact pk_le 15 c (fun _ => H tb) (fun h => by omega)
  | succ d ih =>
    intro c f t tb hd hfc ht hp H
    have hl := ww_pv_le t c (15 - f) f
    refine pk_le 15 c (fun h => by omega) (fun h => ?_)
    simp only [ww_rX] at H
    refine xx_pv tb ht hp f c (by omega) h (fun z => ?_) (fun z => ?_)
    · refine br_f (nI_pos (by omega)) ?_
      refine xx_sw tb hp f _ (by omega) z (fun tb1 hp1 => ?_)
      refine xx_cl tb1 (ww_sw_lt ht _ _) hp1 f c (by omega) h (fun tb2 hp2 => ?_)
      refine nm_r (nI_1 f) (nm_r (nI_1 c) (ih (c + 1) (f + 1) _ tb2 (by omega) (by omega) (ww_cX_lt (ww_sw_lt ht _ _) _ _) hp2 ?_))
      rw [if_pos z] at H
      exact H
    · refine br_t (by decide) ?_
      refine nm_r (nI_1 c) (ih (c + 1) f t tb (by omega) (by omega) ht hp ?_)
      rw [if_neg z] at H
      exact H
theorem yy_tr {post : Int32 → SY → Prop} : ∀ (d c f : Nat) (t : Nat → Nat) (tb : Nat → Int32), c + d = 15 → f ≤ c → (∀ j, t j < 997) → (∀ j, j < 225 → tb j = nI (t j)) → (∀ tb', post (nI (ww_rY d c f t)) (sz, st, en, tr, re, rn, tb')) → wY_rank_86 post (d + 1) (nI f) (nI c) sz st en tr re rn tb := by
  intro d
  induction d with
  | zero =>
    intro c f t tb hd hfc ht hp H
    exact pk_le 15 c (fun _ => H tb) (fun h => by omega)
  | succ d ih =>
    intro c f t tb hd hfc ht hp H
    have hl := ww_pv_le t c (15 - f) f
    refine pk_le 15 c (fun h => by omega) (fun h => ?_)
    simp only [ww_rY] at H
    refine yy_pv tb ht hp f c (by omega) h (fun z => ?_) (fun z => ?_)
    · have nz := ww_pv_nz t c (15 - f) f (by omega)
      refine br_f (nI_pos (by omega)) ?_
      refine yy_sw tb hp f _ (by omega) z (fun tb1 hp1 => ?_)
      refine yy_cl tb1 (ww_sw_lt ht _ _) hp1 f c (by omega) h (by rw [ww_sw_at _ _ _ _ _ h, if_pos rfl]; exact nz) (fun tb2 hp2 => ?_)
      refine nm_r (nI_1 f) (nm_r (nI_1 c) (ih (c + 1) (f + 1) _ tb2 (by omega) (by omega) (ww_cY_lt (ww_sw_lt ht _ _) _ _) hp2 ?_))
      rw [if_pos z] at H
      exact H
    · refine br_t (by decide) ?_
      refine nm_r (nI_1 c) (ih (c + 1) f t tb (by omega) (by omega) ht hp ?_)
      rw [if_neg z] at H
      exact H
end
theorem i_vc_rank {k : Nat} {u : SX} {v : SY} (I : i_Rel k u v) (hk : k + 5 ≤ 2560) (v1 : Int32) : wpX_rank (fun r u' => wpY_rank (fun r' v' => r' = r ∧ i_Rel (k + 5) u' v') v v1) u v1 := by
  obtain ⟨xs, xb, xe, xt, xr, xn, xg⟩ := u
  obtain ⟨ys, yb, ye, yt, yr, yn, yg⟩ := v
  unfold wpX_rank wpY_rank
  dsimp only
  rcases ww_cs v1 with h | ⟨a, ha, rfl⟩
  · refine xx_auB _ h ?_
    refine br_t rfl ?_
    refine yy_bdB _ _ h ?_
    exact br_f (by decide) ⟨rfl, I⟩
  obtain ⟨n, B, E, T, ok, ax, ay⟩ := I a ha
  have ht : ∀ j, ww_tab B E T j < 997 := fun j => ww_wt_lt _ _ _ _
  refine xx_au a ha ?_
  refine br_f (by decide) ?_
  refine xx_fill ha ok ax _ _ _ (fun re rn tb hp => ?_)
  refine ⟨16, ?_⟩
  refine xx_tr 15 0 0 (ww_tab B E T) tb (by omega) (by omega) ht hp (fun tb1 => ?_)
  refine yy_bd _ a ha ?_
  refine br_t rfl ?_
  refine yy_fill ha ok ay _ _ _ (fun re2 rn2 tb2 hp2 => ?_)
  refine ⟨16, ?_⟩
  refine yy_tr 15 0 0 (ww_tab B E T) tb2 (by omega) (by omega) ht hp2 (fun tb3 => ?_)
  exact ⟨congrArg nI (ww_rank0 _ ht).symm, I⟩
