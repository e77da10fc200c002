/-! the component's weights -/
section
variable {a n : Nat} {B E : Nat → Nat} {T : Nat → Nat → Nat → Nat} {sz st en tr : Nat → Int32}
theorem xx_rs {post : SX → Prop} (ha : a < 3) (hn : n ≤ 4) (ax : ww_AX a n B E T sz st en tr) (re rn tb : Nat → Int32) (H : ∀ re', (∀ q, q < n → re' q = nI (B q)) → post (sz, st, en, tr, re', rn, tb)) : wpX_reachStarts post (sz, st, en, tr, re, rn, tb) (nI a) := by
  obtain ⟨p1, p2, p3, p4⟩ := ax
  have key : ∀ d i re, i + d = n → (∀ q, q < i → re q = nI (B q)) → wX_reachStarts_2 post (nI a) (d + 1) (nI i) sz st en tr re rn tb := by
    intro d
    induction d with
    | zero =>
      intro i re hi hr
      exact ⟨ww_a3 a ha, pk_le n i (fun _ => H re (fun q hq => hr q (by omega))) (fun h => by omega) (hx := ww_rd a rfl (by omega) p1)⟩
    | succ d ih =>
      intro i re hi hr
      refine ⟨ww_a3 a ha, pk_le n i (fun h => by omega) (fun h => ?_) (hx := ww_rd a rfl (by omega) p1)⟩
      refine xx_sc a i ⟨vp_in_nI (by omega) (by decide), ww_put i rfl (by omega) (by decide) (nm_r (nI_1 i) (ih (i + 1) _ (by omega) ?_))⟩
      intro q hq
      by_cases e : q = i
      · subst e
        rw [pk_us, ww_rd (4 * a + q) rfl (by omega) (p2 q (by omega))]
      · rw [pk_un e]
        exact hr q (by omega)
  exact ⟨n + 1, key n 0 re (by omega) (fun q hq => by omega)⟩
theorem xx_wr {post : Int32 → Prop} (ha : a < 3) (ok : ww_OK n B E T) (ax : ww_AX a n B E T sz st en tr) (re rn tb : Nat → Int32) (v : Nat → Nat) (hv : ∀ q, v q < 997) (hr : ∀ q, q < n → re q = nI (v q)) (H : post (nI (ww_fin E v))) : wpX_weightReached post (sz, st, en, tr, re, rn, tb) (nI a) := by
  obtain ⟨p1, p2, p3, p4⟩ := ax
  obtain ⟨⟨o1, o2⟩, o3, o4, o5, o6, o7, o8⟩ := ok
  have hb : ∀ k, ww_sm (fun q => v q * E q) k ≤ k * (996 * 996) := ww_sm_le (fun q => Nat.mul_le_mul (Nat.le_of_lt_succ (hv q)) (Nat.le_of_lt_succ (o5 q)))
  have key : ∀ d i, i + d = n → wX_weightReached_4 post (nI a) sz st en tr re rn tb (d + 1) (nI (ww_sm (fun q => v q * E q) i)) (nI i) := by
    intro d
    induction d with
    | zero =>
      intro i hi
      have hbi := hb i
      refine ⟨ww_a3 a ha, pk_le n i (fun _ => ?_) (fun h => by omega) (hx := ww_rd a rfl (by omega) p1)⟩
      refine xx_resN _ (by omega) ?_
      have e : i = n := by omega
      subst e
      rw [ww_sm_4 o2 (fun p hp => by rw [o6 p hp]; rfl)]
      exact H
    | succ d ih =>
      intro i hi
      refine ⟨ww_a3 a ha, pk_le n i (fun h => by omega) (fun h => ?_) (hx := ww_rd a rfl (by omega) p1)⟩
      refine ⟨vp_in_nI (by omega) (by decide), xx_sc a i ⟨vp_in_nI (by omega) (by decide), nm_r ?_ (nm_r (nI_1 i) (ih (i + 1) (by omega)))⟩⟩
      rw [ww_rd i rfl (by omega) (hr i h), ww_rd (4 * a + i) rfl (by omega) (p3 i h), pk_mul, nI_add]
      rfl
  exact ⟨n + 1, key n 0 (by omega)⟩
/-- the inner sum of reachOn: one letter -/
theorem xx_r29 {post : SX → Prop} {J3 : Int32 → (Nat → Int32) → (Nat → Int32) → (Nat → Int32) → (Nat → Int32) → (Nat → Int32) → (Nat → Int32) → (Nat → Int32) → Prop} {J20 : Int32 → Int32 → Prop} (ha : a < 3) (hn : n ≤ 4) (ax : ww_AX a n B E T sz st en tr) (re rn tb : Nat → Int32) (v : Nat → Nat) (hr : ∀ q, q < n → re q = nI (v q)) (x2 x3 : Int32) (q c s : Nat) (hq : q < n) (hc : c < 2) (H : J20 (nI (s + ww_sm (fun p => v p * T c p q) n)) (nI (c + 1))) : ∀ d i, i + d = n → wX_reachOn_29 post J3 J20 (nI a) x2 x3 (nI q) (nI c) sz st en tr re rn tb (d + 1) (nI (s + ww_sm (fun p => v p * T c p q) i)) (nI i) := by
  obtain ⟨p1, p2, p3, p4⟩ := ax
  intro d
  induction d with
  | zero =>
    intro i hi
    refine ⟨ww_a3 a ha, pk_le n i (fun _ => nm_r (nI_1 c) ?_) (fun h => by omega) (hx := ww_rd a rfl (by omega) p1)⟩
    have e : i = n := by omega
    subst e
    exact H
  | succ d ih =>
    intro i hi
    refine ⟨ww_a3 a ha, pk_le n i (fun h => by omega) (fun h => ?_) (hx := ww_rd a rfl (by omega) p1)⟩
    refine ⟨vp_in_nI (by omega) (by decide), xx_st a c i q ⟨vp_in_nI (by omega) (by decide), nm_r ?_ (nm_r (nI_1 i) (ih (i + 1) (by omega)))⟩⟩
    rw [ww_rd i rfl (by omega) (hr i h), ww_rd (32 * a + 16 * c + 4 * i + q) rfl (by omega) (p4 c i q hc h hq), pk_mul, nI_add, Nat.add_assoc]
    rfl
/-- what the letters ask: c alone, or both -/
def ww_L (T : Nat → Nat → Nat → Nat) (M : Nat → Nat → Nat) (lo hi : Nat) : Prop := (lo < 2 ∧ hi = lo ∧ ∀ p q, M p q = T lo p q) ∨ (lo = 0 ∧ hi = 1 ∧ ∀ p q, M p q = T 0 p q + T 1 p q)
theorem ww_L_le {M : Nat → Nat → Nat} {lo hi : Nat} (h : ww_L T M lo hi) (hT : ∀ c p q, T c p q < 997) (p q : Nat) : M p q ≤ 1992 := by
  rcases h with ⟨_, _, h⟩ | ⟨_, _, h⟩
  · rw [h]; have := hT lo p q; omega
  · rw [h]; have := hT 0 p q; have := hT 1 p q; omega
theorem ww_L_z {M : Nat → Nat → Nat} {lo hi : Nat} (h : ww_L T M lo hi) (hT : ∀ c p q, n ≤ p ∨ n ≤ q → T c p q = 0) (p q : Nat) (hp : n ≤ p) : M p q = 0 := by
  rcases h with ⟨_, _, h⟩ | ⟨_, _, h⟩
  · rw [h, hT _ _ _ (Or.inl hp)]
  · rw [h, hT _ _ _ (Or.inl hp), hT _ _ _ (Or.inl hp)]
theorem xx_r20 {post : SX → Prop} {J3 : Int32 → (Nat → Int32) → (Nat → Int32) → (Nat → Int32) → (Nat → Int32) → (Nat → Int32) → (Nat → Int32) → (Nat → Int32) → Prop} (ha : a < 3) (ok : ww_OK n B E T) (ax : ww_AX a n B E T sz st en tr) (re rn tb : Nat → Int32) (v : Nat → Nat) (hv : ∀ q, v q < 997) (hr : ∀ q, q < n → re q = nI (v q)) (M : Nat → Nat → Nat) (lo hi : Nat) (hM : ww_L T M lo hi) (q : Nat) (hq : q < n) (H : J3 (nI (q + 1)) sz st en tr re (upd rn q (nI (ww_go M v q))) tb) : ∃ n20, wX_reachOn_20 post J3 (nI a) (nI lo) (nI hi) (nI q) sz st en tr re rn tb n20 0 (nI lo) := by
  obtain ⟨⟨o1, o2⟩, o3, o4, o5, o6, o7, o8⟩ := ok
  have hML := ww_L_le hM o7
  have hMz := ww_L_z hM o8
  have hb : ww_sm (fun p => v p * M p q) 4 ≤ 4 * (996 * 1992) := ww_sm_le (fun p => Nat.mul_le_mul (Nat.le_of_lt_succ (hv p)) (hML p q)) 4
  have h4 : ww_sm (fun p => v p * M p q) n = ww_sm (fun p => v p * M p q) 4 := ww_sm_4 o2 (fun p hp => by rw [hMz p q hp]; rfl)
  have hend : ∀ s i, s = ww_sm (fun p => v p * M p q) 4 → hi < i → i < 5 → wX_reachOn_20 post J3 (nI a) (nI lo) (nI hi) (nI q) sz st en tr re rn tb 1 (nI s) (nI i) := by
    intro s i hs h1 h2
    subst hs
    refine br_t (nI_lt h1 (by omega)) (xx_resN _ (by omega) (ww_put q rfl (by omega) (by decide) (nm_r (nI_1 q) H)))
  rcases hM with ⟨hl, e, hM⟩ | ⟨e1, e2, hM⟩
  · subst e
    refine ⟨2, br_f (nI_nlt (Nat.le_refl _) (by omega)) ⟨n + 1, ?_⟩⟩
    have := xx_r29 (post := post) (J3 := J3) (J20 := wX_reachOn_20 post J3 (nI a) (nI hi) (nI hi) (nI q) sz st en tr re rn tb 1) ha o2 ax re rn tb v hr (nI hi) (nI hi) q hi 0 hq hl (by
      refine hend _ _ ?_ (by omega) (by omega)
      rw [← h4, Nat.zero_add]
      exact ww_sm_e (fun p _ => by rw [hM])) n 0 (by omega)
    exact this
  · subst e1 e2
    refine ⟨3, br_f (nI_nlt (by omega) (by omega)) ⟨n + 1, ?_⟩⟩
    have h0 := xx_r29 (post := post) (J3 := J3) (J20 := wX_reachOn_20 post J3 (nI a) (nI 0) (nI 1) (nI q) sz st en tr re rn tb 2) ha o2 ax re rn tb v hr (nI 0) (nI 1) q 0 0 hq (by omega) (by
      refine br_f (nI_nlt (by omega) (by omega)) ⟨n + 1, ?_⟩
      have h1 := xx_r29 (post := post) (J3 := J3) (J20 := wX_reachOn_20 post J3 (nI a) (nI 0) (nI 1) (nI q) sz st en tr re rn tb 1) ha o2 ax re rn tb v hr (nI 0) (nI 1) q 1 (0 + ww_sm (fun p => v p * T 0 p q) n) hq (by omega) (by
        refine hend _ _ ?_ (by omega) (by omega)
        rw [← h4, Nat.zero_add, ww_sm_add]
        exact ww_sm_e (fun p _ => by rw [hM, Nat.mul_add])) n 0 (by omega)
      exact h1) n 0 (by omega)
    exact h0
theorem xx_ro {post : SX → Prop} (ha : a < 3) (ok : ww_OK n B E T) (ax : ww_AX a n B E T sz st en tr) (re rn tb : Nat → Int32) (v : Nat → Nat) (hv : ∀ q, v q < 997) (hr : ∀ q, q < n → re q = nI (v q)) (M : Nat → Nat → Nat) (lo hi : Nat) (hM : ww_L T M lo hi) (H : ∀ re' rn', (∀ q, q < n → re' q = nI (ww_go M v q)) → post (sz, st, en, tr, re', rn', tb)) : wpX_reachOn post (sz, st, en, tr, re, rn, tb) (nI a) (nI lo) (nI hi) := by
  have p1 := ax.1
  have o2 := ok.1.2
  have cp : ∀ rn, (∀ q, q < n → rn q = nI (ww_go M v q)) → ∀ d i re, i + d = n → (∀ q, q < i → re q = nI (ww_go M v q)) → wX_reachOn_101 post (nI a) (d + 1) (nI i) sz st en tr re rn tb := by
    intro rn hrn d
    induction d with
    | zero =>
      intro i re hi hre
      exact ⟨ww_a3 a ha, pk_le n i (fun _ => H re rn (fun q hq => hre q (by omega))) (fun h => by omega) (hx := ww_rd a rfl (by omega) p1)⟩
    | succ d ih =>
      intro i re hi hre
      refine ⟨ww_a3 a ha, pk_le n i (fun h => by omega) (fun h => ?_) (hx := ww_rd a rfl (by omega) p1)⟩
      refine ⟨vp_in_nI (by omega) (by decide), ww_put i rfl (by omega) (by decide) (nm_r (nI_1 i) (ih (i + 1) _ (by omega) ?_))⟩
      intro q hq
      by_cases e : q = i
      · subst e
        rw [pk_us, ww_rd q rfl (by omega) (hrn q (by omega))]
      · rw [pk_un e]
        exact hre q (by omega)
  have key : ∀ d i rn, i + d = n → (∀ q, q < i → rn q = nI (ww_go M v q)) → wX_reachOn_3 post (nI a) (nI lo) (nI hi) (d + 1) (nI i) sz st en tr re rn tb := by
    intro d
    induction d with
    | zero =>
      intro i rn hi hrn
      exact ⟨ww_a3 a ha, pk_le n i (fun _ => ⟨n + 1, cp rn (fun q hq => hrn q (by omega)) n 0 re (by omega) (fun q hq => by omega)⟩) (fun h => by omega) (hx := ww_rd a rfl (by omega) p1)⟩
    | succ d ih =>
      intro i rn hi hrn
      refine ⟨ww_a3 a ha, pk_le n i (fun h => by omega) (fun h => ?_) (hx := ww_rd a rfl (by omega) p1)⟩
      refine xx_r20 ha ok ax re rn tb v hv hr M lo _ hM i h (ih (i + 1) _ (by omega) ?_)
      intro q hq
      by_cases e : q = i
      · subst e
        rw [pk_us]
      · rw [pk_un e]
        exact hrn q (by omega)
  exact ⟨n + 1, key n 0 rn (by omega) (fun q hq => by omega)⟩
theorem xx_len {post : Int32 → Prop} (c : Nat) (hc : 1 ≤ c) (h : c < 4096) (H : post (nI c.log2)) : wpX_lengthOf post (nI c) := by
  have hL := ww_log12 c hc h
  have key : ∀ d i, i + d = 12 → 1 ≤ i → wX_lengthOf_4 post (nI c) (d + 1) (nI (if c.log2 < i then c.log2 else i - 1)) (nI i) := by
    intro d
    induction d with
    | zero =>
      intro i hi h1
      refine pk_lt 11 i (fun _ => ?_) (fun h => by omega)
      rw [if_pos (by omega)]
      exact H
    | succ d ih =>
      intro i hi h1
      refine pk_lt 11 i (fun h => by omega) (fun h => ?_)
      have e : nI c >>> (nI i &&& 31) = nI (c / 2 ^ i) := pk_shrN (by omega) _ i (s_l i (by omega))
      have hq : c / 2 ^ i ≤ c := Nat.div_le_self _ _
      have hg := ww_log c i hc
      refine pk_eq (c / 2 ^ i) 0 (fun z => nm_r (nI_1 i) ?_) (fun z => nm_r (nI_1 i) ?_) (hx := e)
      · have z2 := hg.mp z
        have := ih (i + 1) (by omega) (by omega)
        rw [if_pos (by omega)] at this
        rw [if_pos z2]
        exact this
      · have z2 : ¬ c.log2 < i := fun w => z (hg.mpr w)
        have := ih (i + 1) (by omega) (by omega)
        have e2 : (if c.log2 < i + 1 then c.log2 else i + 1 - 1) = i := by split <;> omega
        rw [e2] at this
        exact this
  have := key 11 1 (by omega) (by omega)
  have e2 : (if c.log2 < 1 then c.log2 else 1 - 1) = 0 := by split <;> omega
  rw [e2] at this
  exact ⟨12, this⟩
theorem ww_let (c k : Nat) (hc : c < 4096) (hk : k < 12) : (nI c >>> (nI k &&& 31)) &&& 1 = nI (c / 2 ^ k % 2) := by
  have hq : c / 2 ^ k ≤ c := Nat.div_le_self _ _
  rw [pk_shrN (by omega) _ k (s_l k (by omega)), pk_andN (by omega) 1 (by decide)]
theorem ww_neg1 : (nI 0 - 1 : Int32) < 0 := by decide
theorem ww_dn (k : Nat) : nI k + (-1) = nI k - 1 := (Int32.sub_eq_add_neg _ _).symm
theorem xx_w12 {post : Int32 → SX → Prop} (ha : a < 3) (ok : ww_OK n B E T) (ax : ww_AX a n B E T sz st en tr) (tb : Nat → Int32) (c : Nat) (hc : c < 4096) : ∀ k, k < 12 → ∀ (v : Nat → Nat) (re rn : Nat → Int32), (∀ q, v q < 997) → (∀ q, q < n → re q = nI (v q)) → (∀ re' rn', post (nI (ww_fin E (ww_run T (ww_bits c k) v))) (sz, st, en, tr, re', rn', tb)) → wX_weightOf_12 post (nI a) (nI c) (k + 1) (nI k - 1) sz st en tr re rn tb := by
  intro k
  induction k with
  | zero =>
    intro _ v re rn hv hr H
    exact br_t ww_neg1 (xx_wr ha ok ax re rn tb v hv hr (H re rn))
  | succ k ih =>
    intro hk v re rn hv hr H
    rw [nI_pred]
    refine br_f (nI_pos (by omega)) (nm_r (ww_let c k hc (by omega)) ?_)
    refine xx_ro ha ok ax re rn tb v hv hr (T (c / 2 ^ k % 2)) _ _ (Or.inl ⟨by omega, rfl, fun _ _ => rfl⟩) ?_
    intro re' rn' h'
    exact nm_r (ww_dn k) (ih (by omega) _ re' rn' (ww_go_lt _ _) h' H)
theorem xx_wo {post : Int32 → SX → Prop} (ha : a < 3) (ok : ww_OK n B E T) (ax : ww_AX a n B E T sz st en tr) (re rn tb : Nat → Int32) (c : Nat) (h1 : 1 ≤ c) (hc : c < 4096) (H : ∀ re' rn', post (nI (ww_wt B E T c)) (sz, st, en, tr, re', rn', tb)) : wpX_weightOf post (sz, st, en, tr, re, rn, tb) (nI a) (nI c) := by
  refine xx_rs ha ok.1.2 ax re rn tb ?_
  intro re' hr
  refine xx_len c h1 hc (nm_e ⟨c.log2 + 1, ?_⟩)
  exact xx_w12 ha ok ax tb c hc c.log2 (ww_log12 c h1 hc) B re' rn ok.2.1 hr H
end
