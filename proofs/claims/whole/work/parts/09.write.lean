/-! size, mark, step -/
theorem ww_mk {a : Nat} {xs xb xe xt ys yb ye yt xs' xb' xe' xt' ys' yb' ye' yt' : Nat → Int32} (I : ww_R xs xb xe xt ys yb ye yt) (hP : ww_P a xs' xb' xe' xt' ys' yb' ye' yt')
    (h1 : ∀ j, j ≠ a → xs' j = xs j) (h2 : ∀ j, j / 4 ≠ a → xb' j = xb j) (h3 : ∀ j, j / 4 ≠ a → xe' j = xe j) (h4 : ∀ j, j / 32 ≠ a → xt' j = xt j)
    (k1 : ∀ j, j ≠ a → ys' j = ys j) (k2 : ∀ j, j / 4 ≠ a → yb' j = yb j) (k3 : ∀ j, j / 4 ≠ a → ye' j = ye j) (k4 : ∀ j, j / 32 ≠ a → yt' j = yt j) : ww_R xs' xb' xe' xt' ys' yb' ye' yt' := by
  intro i hi
  by_cases e : i = a
  · rw [e]; exact hP
  · exact ww_Pf (I i hi) (h1 i e) (fun j z => h2 j (by omega)) (fun j z => h3 j (by omega)) (fun j z => h4 j (by omega)) (k1 i e) (fun j z => k2 j (by omega)) (fun j z => k3 j (by omega)) (fun j z => k4 j (by omega))
theorem xx_clear {post : SX → Prop} {a : Nat} (ha : a < 3) (sz st en tr re rn tb : Nat → Int32) (H : ∀ st' en' tr', ww_W (fun j => j / 4 = a) (fun _ => 0) st st' → ww_W (fun j => j / 4 = a) (fun _ => 0) en en' → ww_W (fun j => j / 32 = a) (fun _ => 0) tr tr' → post (sz, st', en', tr', re, rn, tb)) : wpX_clearNumbers post (sz, st, en, tr, re, rn, tb) (nI a) := by
  have k2 : ∀ st' en', ww_W (fun j => j / 4 = a) (fun _ => 0) st st' → ww_W (fun j => j / 4 = a) (fun _ => 0) en en' → ∀ d i tr', i + d = 32 → ww_W (fun j => j / 32 = a ∧ j % 32 < i) (fun _ => 0) tr tr' → wX_clearNumbers_35 post (nI a) (d + 1) (nI i) sz st' en' tr' re rn tb := by
    intro st' en' hs he d
    induction d with
    | zero =>
      intro i tr' hi hw
      exact pk_le 32 i (fun _ => H st' en' tr' hs he (ww_Wi hw (fun j => by omega))) (fun h => by omega)
    | succ d ih =>
      intro i tr' hi hw
      refine pk_le 32 i (fun h => by omega) (fun h => ?_)
      exact ww_put (32 * a + i) (ix_32 a i) (by omega) (by decide) (nm_r (nI_1 i) (ih (i + 1) _ (by omega) (ww_W1 hw rfl (fun j => by omega))))
  have k1 : ∀ d i st' en', i + d = 4 → ww_W (fun j => j / 4 = a ∧ j % 4 < i) (fun _ => 0) st st' → ww_W (fun j => j / 4 = a ∧ j % 4 < i) (fun _ => 0) en en' → wX_clearNumbers_2 post (nI a) (d + 1) (nI i) sz st' en' tr re rn tb := by
    intro d
    induction d with
    | zero =>
      intro i st' en' hi hs he
      exact pk_le 4 i (fun _ => ⟨33, k2 st' en' (ww_Wi hs (fun j => by omega)) (ww_Wi he (fun j => by omega)) 32 0 tr (by omega) (ww_W0 (fun j => by omega))⟩) (fun h => by omega)
    | succ d ih =>
      intro i st' en' hi hs he
      refine pk_le 4 i (fun h => by omega) (fun h => ?_)
      refine xx_sc a i ?_
      exact ww_put (4 * a + i) rfl (by omega) (by decide) (ww_put (4 * a + i) rfl (by omega) (by decide) (nm_r (nI_1 i) (ih (i + 1) _ _ (by omega) (ww_W1 hs rfl (fun j => by omega)) (ww_W1 he rfl (fun j => by omega)))))
  exact ⟨5, k1 4 0 st en (by omega) (ww_W0 (fun j => by omega)) (ww_W0 (fun j => by omega))⟩
theorem yy_size {post : Int32 → SY → Prop} {a n m : Nat} (ha : a < 3) (sz st en tr re rn tb : Nat → Int32) (hs : sz a = nI n) (h1 : 1 ≤ m) (h4 : m ≤ 4) (H : ∀ st' en' tr', ww_W (fun j => j / 4 = a) (fun _ => 0) st st' → ww_W (fun j => j / 4 = a) (fun _ => 0) en en' → ww_W (fun j => j / 32 = a) (fun _ => 0) tr tr' → post (nI n) (upd sz a (nI m), st', en', tr', re, rn, tb)) : wpY_size post (sz, st, en, tr, re, rn, tb) (nI a) (nI m) := by
  have k2 : ∀ st' en', ww_W (fun j => j / 4 = a) (fun _ => 0) st st' → ww_W (fun j => j / 4 = a) (fun _ => 0) en en' → ∀ d i tr', i + d = 32 → ww_W (fun j => j / 32 = a ∧ j % 32 < i) (fun _ => 0) tr tr' → wY_size_79 post (nI a) (nI n) (d + 1) (nI i) (upd sz a (nI m)) st' en' tr' re rn tb := by
    intro st' en' hs he d
    induction d with
    | zero =>
      intro i tr' hi hw
      exact pk_le 32 i (fun _ => H st' en' tr' hs he (ww_Wi hw (fun j => by omega))) (fun h => by omega)
    | succ d ih =>
      intro i tr' hi hw
      refine pk_le 32 i (fun h => by omega) (fun h => ?_)
      exact ww_put (32 * a + i) (ix_32 a i) (by omega) (by decide) (nm_r (nI_1 i) (ih (i + 1) _ (by omega) (ww_W1 hw rfl (fun j => by omega))))
  have k1 : ∀ d i st' en', i + d = 4 → ww_W (fun j => j / 4 = a ∧ j % 4 < i) (fun _ => 0) st st' → ww_W (fun j => j / 4 = a ∧ j % 4 < i) (fun _ => 0) en en' → wY_size_40 post (nI a) (nI n) (d + 1) (nI i) (upd sz a (nI m)) st' en' tr re rn tb := by
    intro d
    induction d with
    | zero =>
      intro i st' en' hi hs he
      exact pk_le 4 i (fun _ => ⟨33, k2 st' en' (ww_Wi hs (fun j => by omega)) (ww_Wi he (fun j => by omega)) 32 0 tr (by omega) (ww_W0 (fun j => by omega))⟩) (fun h => by omega)
    | succ d ih =>
      intro i st' en' hi hs he
      refine pk_le 4 i (fun h => by omega) (fun h => ?_)
      exact ww_put (4 * a + i) (ix_4 a i) (by omega) (by decide) (ww_put (4 * a + i) (ix_4 a i) (by omega) (by decide) (nm_r (nI_1 i) (ih (i + 1) _ _ (by omega) (ww_W1 hs rfl (fun j => by omega)) (ww_W1 he rfl (fun j => by omega)))))
  unfold wpY_size
  dsimp only
  refine yy_bd _ a ha ?_
  refine br_t rfl (br_f (nI_nlt (b := 1) h1 (by omega)) (br_t (nI_le (b := 4) h4 (by decide)) ⟨ww_a3 a ha, nm_r (ww_rd a rfl (by omega) hs) ?_⟩))
  exact ww_put a rfl ha (by decide) ⟨5, k1 4 0 st en (by omega) (ww_W0 (fun j => by omega)) (ww_W0 (fun j => by omega))⟩
theorem ww_un {f : Nat → Int32} {a : Nat} {x : Int32} : ∀ j, j ≠ a → upd f a x j = f j := fun _ h => pk_un h
theorem ww_blank {m : Nat} (h1 : 1 ≤ m) (h4 : m ≤ 4) : ww_OK m (fun _ => 0) (fun _ => 0) (fun _ _ _ => 0) :=
  ⟨⟨h1, h4⟩, fun _ => (by decide : (0 : Nat) < 997), fun _ _ => rfl, fun _ => (by decide : (0 : Nat) < 997), fun _ _ => rfl, fun _ _ _ => (by decide : (0 : Nat) < 997), fun _ _ _ _ => rfl⟩
theorem i_vc_size {k : Nat} {u : SX} {v : SY} (I : i_Rel k u v) (hk : k + 5 ≤ 2560) (v1 : Int32) (v2 : Int32) : wpX_size (fun r u' => wpY_size (fun r' v' => r' = r ∧ i_Rel (k + 5) u' v') v v1 v2) u v1 v2 := by
  obtain ⟨xs, xb, xe, xt, xr, xn, xg⟩ := u
  obtain ⟨ys, yb, ye, yt, yr, yn, yg⟩ := v
  rcases ww_cs v1 with h | ⟨a, ha, rfl⟩
  · unfold wpX_size wpY_size
    dsimp only
    refine xx_auB _ h ?_
    refine br_t rfl ?_
    refine yy_bdB _ _ h ?_
    exact br_f (by decide) ⟨rfl, I⟩
  · by_cases h1 : v2 < 1
    · unfold wpX_size wpY_size
      dsimp only
      refine xx_au a ha ?_
      refine br_f (by decide) ?_
      refine br_t h1 ?_
      refine yy_bd _ a ha ?_
      refine br_t rfl ?_
      exact br_t h1 ⟨rfl, I⟩
    · by_cases h2 : v2 ≤ 4
      · obtain ⟨m, c1, c2, rfl⟩ := ww_rng 1 4 h1 h2 (by decide) (by decide)
        obtain ⟨n, B, E, T, ok, ax, ay⟩ := I a ha
        unfold wpX_size
        dsimp only
        refine xx_au a ha ?_
        refine br_f (by decide) ?_
        refine br_f h1 ?_
        refine br_t h2 ?_
        refine ⟨ww_a3 a ha, nm_r (ww_rd a rfl (by omega) ax.1) ?_⟩
        refine ww_put a rfl ha (by decide) ?_
        refine xx_clear ha _ _ _ _ _ _ _ (fun st' en' tr' w1 w2 w3 => ?_)
        refine yy_size ha _ _ _ _ _ _ _ ay.1 c1 c2 (fun st'' en'' tr'' z1 z2 z3 => ⟨rfl, ?_⟩)
        refine ww_mk I ⟨m, fun _ => 0, fun _ => 0, fun _ _ _ => 0, ww_blank c1 c2, ⟨pk_us, fun q hq => (w1 _).1 (by omega), fun q hq => (w2 _).1 (by omega), fun c p q _ _ _ => (w3 _).1 (by omega)⟩, ⟨pk_us, fun q hq => (z1 _).1 (by omega), fun q hq => (z2 _).1 (by omega), fun c p q _ _ _ => (z3 _).1 (by omega)⟩⟩ ww_un (fun j hj => (w1 j).2 hj) (fun j hj => (w2 j).2 hj) (fun j hj => (w3 j).2 hj) ww_un (fun j hj => (z1 j).2 hj) (fun j hj => (z2 j).2 hj) (fun j hj => (z3 j).2 hj)
      · unfold wpX_size wpY_size
        dsimp only
        refine xx_au a ha ?_
        refine br_f (by decide) ?_
        refine br_f h1 ?_
        refine br_f h2 ?_
        refine yy_bd _ a ha ?_
        refine br_t rfl ?_
        refine br_f h1 ?_
        exact br_f h2 ⟨rfl, I⟩
/-- good states -/
theorem xx_isB {post : Int32 → Prop} {a n : Nat} {sz st en tr re rn tb : Nat → Int32} (ha : a < 3) (hs : sz a = nI n) (x : Int32) (hx : x < 0 ∨ nI n ≤ x) (h : post 0) : wpX_isState post (sz, st, en, tr, re, rn, tb) (nI a) x := by
  refine br_c (fun _ => h) (fun z => ⟨ww_a3 a ha, ?_⟩)
  rw [ww_rd a rfl (by omega) hs]
  exact br_c (fun _ => h) (fun z2 => (hx.elim (fun q => z q) (fun q => z2 q)).elim)
theorem xx_is1 {post : Int32 → Prop} {a n : Nat} {sz st en tr re rn tb : Nat → Int32} (ha : a < 3) (hs : sz a = nI n) (hn : n ≤ 4) (q : Nat) (hq : q < n) (h : post 1) : wpX_isState post (sz, st, en, tr, re, rn, tb) (nI a) (nI q) := by
  refine br_f (nI_pos (by omega)) ⟨ww_a3 a ha, ?_⟩
  rw [ww_rd a rfl (by omega) hs]
  exact br_f (nI_ge hq (by omega)) h
theorem yy_bsB {post : Int32 → Prop} {a n : Nat} {sz st en tr re rn tb : Nat → Int32} (ha : a < 3) (hs : sz a = nI n) (x : Int32) (hx : x < 0 ∨ nI n ≤ x) (h : post 1) : wpY_badState post (sz, st, en, tr, re, rn, tb) (nI a) x := by
  refine br_c (fun _ => h) (fun z => ⟨ww_a3 a ha, ?_⟩)
  rw [ww_rd a rfl (by omega) hs]
  exact br_c (fun _ => h) (fun z2 => (hx.elim (fun q => z q) (fun q => z2 q)).elim)
theorem yy_bs {post : Int32 → Prop} {a n : Nat} {sz st en tr re rn tb : Nat → Int32} (ha : a < 3) (hs : sz a = nI n) (hn : n ≤ 4) (q : Nat) (hq : q < n) (h : post 0) : wpY_badState post (sz, st, en, tr, re, rn, tb) (nI a) (nI q) := by
  refine br_f (nI_pos (by omega)) ⟨ww_a3 a ha, ?_⟩
  rw [ww_rd a rfl (by omega) hs]
  exact br_f (nI_ge hq (by omega)) (br_t (nI_le (b := 3) (by omega) (by decide)) h)
theorem ww_cn (x : Int32) {n : Nat} (hn : n ≤ 4) : (x < 0 ∨ nI n ≤ x) ∨ ∃ q : Nat, q < n ∧ x = nI q := by
  rcases pk_ix x (n := n) (by omega) with h | h | h
  · exact Or.inl (Or.inl h)
  · exact Or.inl (Or.inr h)
  · exact Or.inr h
theorem ww_u1 {f : Nat → Int32} {B : Nat → Nat} {a q w n : Nat} (h : ∀ q, q < n → f (4 * a + q) = nI (B q)) : ∀ q', q' < n → upd f (4 * a + q) (nI w) (4 * a + q') = nI ((fun q' => if q' = q then w else B q') q') := by
  intro q' hq'
  by_cases e : q' = q
  · subst e
    simp [pk_us]
  · rw [pk_un (by omega), h q' hq']
    simp [e]
theorem ww_uf {f : Nat → Int32} {a q : Nat} {x : Int32} (hq : q < 4) : ∀ j, j / 4 ≠ a → upd f (4 * a + q) x j = f j := fun j hj => pk_un (by omega)
theorem ww_if {B : Nat → Nat} {q w n : Nat} (hw : w < 997) (hB : ∀ q, B q < 997) (hz : ∀ q, n ≤ q → B q = 0) (hq : q < n) : (∀ q', (fun q' => if q' = q then w else B q') q' < 997) ∧ (∀ q', n ≤ q' → (fun q' => if q' = q then w else B q') q' = 0) := by
  refine ⟨fun q' => ?_, fun q' hq' => ?_⟩
  · show (if q' = q then w else B q') < 997
    split
    · exact hw
    · exact hB q'
  · show (if q' = q then w else B q') = 0
    rw [if_neg (by omega)]
    exact hz q' hq'
theorem i_vc_mark {k : Nat} {u : SX} {v : SY} (I : i_Rel k u v) (hk : k + 5 ≤ 2560) (v1 : Int32) (v2 : Int32) (v3 : Int32) (v4 : Int32) : wpX_mark (fun r u' => wpY_mark (fun r' v' => r' = r ∧ i_Rel (k + 5) u' v') v v1 v2 v3 v4) u v1 v2 v3 v4 := by
  obtain ⟨xs, xb, xe, xt, xr, xn, xg⟩ := u
  obtain ⟨ys, yb, ye, yt, yr, yn, yg⟩ := v
  unfold wpX_mark wpY_mark
  dsimp only
  rcases ww_cs v1 with h | ⟨a, ha, rfl⟩
  · refine xx_auB _ h ?_
    refine br_t rfl ?_
    refine yy_bdB _ _ h ?_
    exact br_f (by decide) ⟨rfl, I⟩
  obtain ⟨n, B, E, T, ok, ax, ay⟩ := I a ha
  rcases ww_cn v2 ok.1.2 with h | ⟨q, hq, rfl⟩
  · refine xx_au a ha ?_
    refine br_f (by decide) ?_
    refine xx_isB ha ax.1 _ h ?_
    refine br_t rfl ?_
    refine yy_bd _ a ha ?_
    refine br_t rfl ?_
    refine yy_bsB ha ay.1 _ h ?_
    exact br_f (by decide) ⟨rfl, I⟩
  obtain ⟨p1, p2, p3, p4⟩ := ax
  obtain ⟨r1, r2, r3, r4⟩ := ay
  obtain ⟨⟨o1, o2⟩, o3, o4, o5, o6, o7, o8⟩ := ok
  have hw := ww_md_lt v4
  by_cases h0 : v3 = 0
  · refine xx_au a ha ?_
    refine br_f (by decide) ?_
    refine xx_is1 ha p1 o2 q hq ?_
    refine br_f (by decide) ?_
    refine xx_sc a q ?_
    refine br_t h0 ?_
    refine ⟨vp_in_nI (by omega) (by decide), nm_r (ww_rd (4 * a + q) rfl (by omega) (p2 q hq)) ?_⟩
    refine xx_residue v4 ?_
    refine ww_put (4 * a + q) rfl (by omega) (by decide) ?_
    refine yy_bd _ a ha ?_
    refine br_t rfl ?_
    refine yy_bs ha r1 o2 q hq ?_
    refine br_t rfl ?_
    refine nm_r (ix_4 a q) ?_
    refine br_t h0 ?_
    refine ⟨vp_in_nI (by omega) (by decide), ?_⟩
    refine br_t h0 ?_
    refine yy_reduced _ v4 ?_
    refine ww_put (4 * a + q) rfl (by omega) (by decide) ?_
    refine ⟨ww_rd (4 * a + q) rfl (by omega) (r2 q (by omega)), ?_⟩
    have hi := ww_if hw o3 o4 hq
    exact ww_mk I ⟨n, _, E, T, ⟨⟨o1, o2⟩, hi.1, hi.2, o5, o6, o7, o8⟩, ⟨p1, ww_u1 p2, p3, p4⟩, ⟨r1, ww_u1 r2, r3, r4⟩⟩ (fun _ _ => rfl) (ww_uf (by omega)) (fun _ _ => rfl) (fun _ _ => rfl) (fun _ _ => rfl) (ww_uf (by omega)) (fun _ _ => rfl) (fun _ _ => rfl)
  · refine xx_au a ha ?_
    refine br_f (by decide) ?_
    refine xx_is1 ha p1 o2 q hq ?_
    refine br_f (by decide) ?_
    refine xx_sc a q ?_
    refine br_f h0 ?_
    refine ⟨vp_in_nI (by omega) (by decide), nm_r (ww_rd (4 * a + q) rfl (by omega) (p3 q hq)) ?_⟩
    refine xx_residue v4 ?_
    refine ww_put (4 * a + q) rfl (by omega) (by decide) ?_
    refine yy_bd _ a ha ?_
    refine br_t rfl ?_
    refine yy_bs ha r1 o2 q hq ?_
    refine br_t rfl ?_
    refine nm_r (ix_4 a q) ?_
    refine br_f h0 ?_
    refine ⟨vp_in_nI (by omega) (by decide), ?_⟩
    refine br_f h0 ?_
    refine yy_reduced _ v4 ?_
    refine ww_put (4 * a + q) rfl (by omega) (by decide) ?_
    refine ⟨ww_rd (4 * a + q) rfl (by omega) (r3 q (by omega)), ?_⟩
    have hi := ww_if hw o5 o6 hq
    exact ww_mk I ⟨n, B, _, T, ⟨⟨o1, o2⟩, o3, o4, hi.1, hi.2, o7, o8⟩, ⟨p1, p2, ww_u1 p3, p4⟩, ⟨r1, r2, ww_u1 r3, r4⟩⟩ (fun _ _ => rfl) (fun _ _ => rfl) (ww_uf (by omega)) (fun _ _ => rfl) (fun _ _ => rfl) (fun _ _ => rfl) (ww_uf (by omega)) (fun _ _ => rfl)
