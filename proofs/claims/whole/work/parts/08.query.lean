/-! the methods that only answer: states, weight, equivalent, difference, total, first, isSum -/
theorem ww_cs (x : Int32) : (x < 0 ∨ nI 3 ≤ x) ∨ ∃ a : Nat, a < 3 ∧ x = nI a := by
  rcases pk_ix x (n := 3) (by decide) with h | h | h
  · exact Or.inl (Or.inl h)
  · exact Or.inl (Or.inr h)
  · exact Or.inr h
theorem ww_rng {x : Int32} (lo hi : Nat) (h1 : ¬ x < nI lo) (h2 : x ≤ nI hi) (hl : lo < 2 ^ 31) (hh : hi < 2 ^ 31) : ∃ c : Nat, lo ≤ c ∧ c ≤ hi ∧ x = nI c := by
  have h0 : ¬ x < 0 := fun z => h1 (Int32.lt_of_lt_of_le z (nI_pos' hl))
  obtain ⟨c, hc, rfl⟩ := nI_of h0
  rw [nI_ltI hc hl] at h1
  rw [nI_leI hc hh] at h2
  exact ⟨c, by omega, h2, rfl⟩
/-- the first code that hits, of d codes from i on; 0 if none -/
def ww_ff (h : Nat → Bool) : Nat → Nat → Nat
  | 0, _ => 0
  | d + 1, i => if h i then i else ww_ff h d (i + 1)
def ww_al (h : Nat → Bool) : Nat → Nat → Nat
  | 0, _ => 1
  | d + 1, i => if h i then 0 else ww_al h d (i + 1)
theorem ww_ff_t {h : Nat → Bool} {d i : Nat} (e : h i = true) : ww_ff h (d + 1) i = i := by simp [ww_ff, e]
theorem ww_ff_f {h : Nat → Bool} {d i : Nat} (e : h i = false) : ww_ff h (d + 1) i = ww_ff h d (i + 1) := by simp [ww_ff, e]
theorem ww_al_t {h : Nat → Bool} {d i : Nat} (e : h i = true) : ww_al h (d + 1) i = 0 := by simp [ww_al, e]
theorem ww_al_f {h : Nat → Bool} {d i : Nat} (e : h i = false) : ww_al h (d + 1) i = ww_al h d (i + 1) := by simp [ww_al, e]
def ww_ne (x y : Nat) : Bool := !(x == y)
theorem ww_ne_t {x y : Nat} (h : x ≠ y) : ww_ne x y = true := by simp [ww_ne, h]
theorem ww_ne_f {x y : Nat} (h : x = y) : ww_ne x y = false := by simp [ww_ne, h]
theorem ww_ff_le (h : Nat → Bool) : ∀ d i, ww_ff h d i < i + d + 1
  | 0, i => by simp [ww_ff]
  | d + 1, i => by
    have := ww_ff_le h d (i + 1)
    simp only [ww_ff]
    split <;> omega
theorem ww_ff_z {h : Nat → Bool} : ∀ d i, (∀ c, i ≤ c → c < i + d → h c = false) → ww_ff h d i = 0
  | 0, i, _ => rfl
  | d + 1, i, H => by
    rw [ww_ff_f (H i (by omega) (by omega))]
    exact ww_ff_z d (i + 1) (fun c h1 h2 => H c (by omega) (by omega))
/-- fifteen codes decide -/
theorem ww_ff_more {h : Nat → Bool} (e : Nat) : ∀ d i, ((∀ c, i ≤ c → c < i + d → h c = false) → ∀ c, i + d ≤ c → h c = false) → ww_ff h d i = ww_ff h (d + e) i
  | 0, i, H => by
    have := H (fun c h1 h2 => by omega)
    rw [Nat.zero_add]
    exact (ww_ff_z e i (fun c h1 _ => this c (by omega))).symm
  | d + 1, i, H => by
    rw [show d + 1 + e = (d + e) + 1 by omega]
    cases hi : h i with
    | true => rw [ww_ff_t hi, ww_ff_t hi]
    | false =>
      rw [ww_ff_f hi, ww_ff_f hi]
      refine ww_ff_more e d (i + 1) (fun H2 c hc => H (fun c' h1 h2 => ?_) c (by omega))
      by_cases z : c' = i
      · rw [z, hi]
      · exact H2 c' (by omega) (by omega)
theorem i_vc_states {k : Nat} {u : SX} {v : SY} (I : i_Rel k u v) (hk : k + 5 ≤ 2560) (v1 : Int32) : wpX_states (fun r => wpY_states (fun r' => r' = r ∧ i_Rel (k + 5) u v) v v1) u v1 := by
  obtain ⟨xs, xb, xe, xt, xr, xn, xg⟩ := u
  obtain ⟨ys, yb, ye, yt, yr, yn, yg⟩ := v
  unfold wpX_states wpY_states
  dsimp only
  rcases ww_cs v1 with h | ⟨a, ha, rfl⟩
  · refine xx_auB _ h ?_
    refine br_t rfl ?_
    refine yy_bdB _ _ h ?_
    exact br_f (by decide) ⟨rfl, I⟩
  · obtain ⟨n, B, E, T, ok, ax, ay⟩ := I a ha
    refine xx_au a ha ?_
    refine br_f (by decide) ?_
    refine ⟨ww_a3 a ha, ?_⟩
    refine yy_bd _ a ha ?_
    refine br_t rfl ?_
    refine ⟨ww_a3 a ha, ?_, I⟩
    exact (ww_rd a rfl (by omega) ay.1).trans (ww_rd a rfl (by omega) ax.1).symm
theorem i_vc_weight {k : Nat} {u : SX} {v : SY} (I : i_Rel k u v) (hk : k + 5 ≤ 2560) (v1 : Int32) (v2 : Int32) : wpX_weight (fun r u' => wpY_weight (fun r' v' => r' = r ∧ i_Rel (k + 5) u' v') v v1 v2) u v1 v2 := by
  obtain ⟨xs, xb, xe, xt, xr, xn, xg⟩ := u
  obtain ⟨ys, yb, ye, yt, yr, yn, yg⟩ := v
  unfold wpX_weight wpY_weight
  dsimp only
  rcases ww_cs v1 with h | ⟨a, ha, rfl⟩
  · refine xx_auB _ h ?_
    refine br_t rfl ?_
    refine yy_bdB _ _ h ?_
    exact br_f (by decide) ⟨rfl, I⟩
  · obtain ⟨n, B, E, T, ok, ax, ay⟩ := I a ha
    by_cases h1 : v2 < 1
    · refine xx_au a ha ?_
      refine br_f (by decide) ?_
      refine br_t h1 ?_
      refine yy_bd _ a ha ?_
      refine br_t rfl ?_
      exact br_t h1 ⟨rfl, I⟩
    · by_cases h2 : v2 ≤ 1023
      · obtain ⟨c, c1, c2, rfl⟩ := ww_rng 1 1023 h1 h2 (by decide) (by decide)
        refine xx_au a ha ?_
        refine br_f (by decide) ?_
        refine br_f h1 ?_
        refine br_t h2 ?_
        refine xx_wo ha ok ax _ _ _ c c1 (by omega) (fun re' rn' => ?_)
        refine yy_bd _ a ha ?_
        refine br_t rfl ?_
        refine br_f h1 ?_
        refine br_t h2 ?_
        refine yy_wo ha ok ay _ _ _ c c1 (by omega) (fun re'' rn'' => ?_)
        exact ⟨rfl, I⟩
      · refine xx_au a ha ?_
        refine br_f (by decide) ?_
        refine br_f h1 ?_
        refine br_f h2 ?_
        refine yy_bd _ a ha ?_
        refine br_t rfl ?_
        refine br_f h1 ?_
        exact br_f h2 ⟨rfl, I⟩
theorem xx_ld {post : Int32 → SX → Prop} {a b n m : Nat} {B E B' E' : Nat → Nat} {T T' : Nat → Nat → Nat → Nat} {sz st en tr : Nat → Int32} (ha : a < 3) (hb : b < 3) (ok : ww_OK n B E T) (ax : ww_AX a n B E T sz st en tr) (ok' : ww_OK m B' E' T') (ax' : ww_AX b m B' E' T' sz st en tr) (g : Nat → Bool) (hg : ∀ c, g c = ww_ne (ww_wt B E T c) (ww_wt B' E' T' c)) (tb : Nat → Int32) (re rn : Nat → Int32) (H : ∀ re' rn', post (nI (ww_ff g 255 1)) (sz, st, en, tr, re', rn', tb)) : wpX_leastDifference post (sz, st, en, tr, re, rn, tb) (nI a) (nI b) := by
  have key : ∀ d i re rn, i + d = 256 → 1 ≤ i → (∀ re' rn', post (nI (ww_ff g d i)) (sz, st, en, tr, re', rn', tb)) → wX_leastDifference_2 post (nI a) (nI b) (d + 1) (nI i) sz st en tr re rn tb := by
    intro d
    induction d with
    | zero =>
      intro i re rn hi h1 H
      exact pk_lt 255 i (fun _ => H re rn) (fun h => by omega)
    | succ d ih =>
      intro i re rn hi h1 H
      refine pk_lt 255 i (fun h => by omega) (fun h => ?_)
      refine xx_wo ha ok ax re rn tb i h1 (by omega) (fun re1 rn1 => ?_)
      refine xx_wo hb ok' ax' re1 rn1 tb i h1 (by omega) (fun re2 rn2 => ?_)
      have l1 := ww_wt_lt B E T i
      have l2 := ww_wt_lt B' E' T' i
      refine pk_eq (ww_wt B E T i) (ww_wt B' E' T' i) (fun e => nm_r (nI_1 i) (ih (i + 1) re2 rn2 (by omega) (by omega) ?_)) (fun e => ?_)
      · intro re' rn'
        have := H re' rn'
        rw [ww_ff_f ((hg i).trans (ww_ne_f e))] at this
        exact this
      · have := H re2 rn2
        rw [ww_ff_t ((hg i).trans (ww_ne_t e))] at this
        exact this
  exact ⟨256, key 255 1 re rn (by omega) (by omega) H⟩
theorem yy_ap {post : Int32 → SY → Prop} {a b n m : Nat} {B E B' E' : Nat → Nat} {T T' : Nat → Nat → Nat → Nat} {sz st en tr : Nat → Int32} (ha : a < 3) (hb : b < 3) (ok : ww_OK n B E T) (ay : ww_AY a n B E T sz st en tr) (ok' : ww_OK m B' E' T') (ay' : ww_AY b m B' E' T' sz st en tr) (g : Nat → Bool) (hg : ∀ c, g c = ww_ne (ww_wt B E T c) (ww_wt B' E' T' c)) (tb : Nat → Int32) (re rn : Nat → Int32) (H : ∀ re' rn', post (nI (ww_ff g 255 1)) (sz, st, en, tr, re', rn', tb)) : wpY_apart post (sz, st, en, tr, re, rn, tb) (nI a) (nI b) := by
  have key : ∀ d i re rn, i + d = 256 → 1 ≤ i → (∀ re' rn', post (nI (ww_ff g d i)) (sz, st, en, tr, re', rn', tb)) → wY_apart_2 post (nI a) (nI b) (d + 1) (nI i) sz st en tr re rn tb := by
    intro d
    induction d with
    | zero =>
      intro i re rn hi h1 H
      exact pk_le 256 i (fun _ => H re rn) (fun h => by omega)
    | succ d ih =>
      intro i re rn hi h1 H
      refine pk_le 256 i (fun h => by omega) (fun h => ?_)
      refine yy_wo ha ok ay re rn tb i h1 (by omega) (fun re1 rn1 => ?_)
      refine yy_wo hb ok' ay' re1 rn1 tb i h1 (by omega) (fun re2 rn2 => ?_)
      have l1 := ww_wt_lt B E T i
      have l2 := ww_wt_lt B' E' T' i
      refine pk_eq (ww_wt B E T i) (ww_wt B' E' T' i) (fun e => nm_r (nI_1 i) (ih (i + 1) re2 rn2 (by omega) (by omega) ?_)) (fun e => ?_)
      · intro re' rn'
        have := H re' rn'
        rw [ww_ff_f ((hg i).trans (ww_ne_f e))] at this
        exact this
      · have := H re2 rn2
        rw [ww_ff_t ((hg i).trans (ww_ne_t e))] at this
        exact this
  exact ⟨256, key 255 1 re rn (by omega) (by omega) H⟩
theorem i_vc_difference {k : Nat} {u : SX} {v : SY} (I : i_Rel k u v) (hk : k + 5 ≤ 2560) (v1 : Int32) (v2 : Int32) : wpX_difference (fun r u' => wpY_difference (fun r' v' => r' = r ∧ i_Rel (k + 5) u' v') v v1 v2) u v1 v2 := by
  obtain ⟨xs, xb, xe, xt, xr, xn, xg⟩ := u
  obtain ⟨ys, yb, ye, yt, yr, yn, yg⟩ := v
  unfold wpX_difference wpY_difference
  dsimp only
  rcases ww_cs v1 with h | ⟨a, ha, rfl⟩
  · refine xx_auB _ h ?_
    refine br_t rfl ?_
    refine yy_bdB _ _ h ?_
    exact br_f (by decide) ⟨rfl, I⟩
  · rcases ww_cs v2 with h | ⟨b, hb, rfl⟩
    · refine xx_au a ha ?_
      refine br_f (by decide) ?_
      refine xx_auB _ h ?_
      refine br_t rfl ?_
      refine yy_bd _ a ha ?_
      refine br_t rfl ?_
      refine yy_bdB _ _ h ?_
      exact br_f (by decide) ⟨rfl, I⟩
    · obtain ⟨n, B, E, T, ok, ax, ay⟩ := I a ha
      obtain ⟨m, B', E', T', ok', ax', ay'⟩ := I b hb
      refine xx_au a ha ?_
      refine br_f (by decide) ?_
      refine xx_au b hb ?_
      refine br_f (by decide) ?_
      refine xx_ld ha hb ok ax ok' ax' _ (fun _ => rfl) _ _ _ (fun re rn => ?_)
      refine yy_bd _ a ha ?_
      refine br_t rfl ?_
      refine yy_bd _ b hb ?_
      refine br_t rfl ?_
      refine yy_ap ha hb ok ay ok' ay' _ (fun _ => rfl) _ _ _ (fun re' rn' => ?_)
      exact ⟨rfl, I⟩
theorem i_vc_equivalent {k : Nat} {u : SX} {v : SY} (I : i_Rel k u v) (hk : k + 5 ≤ 2560) (v1 : Int32) (v2 : Int32) : wpX_equivalent (fun r u' => wpY_equivalent (fun r' v' => r' = r ∧ i_Rel (k + 5) u' v') v v1 v2) u v1 v2 := by
  obtain ⟨xs, xb, xe, xt, xr, xn, xg⟩ := u
  obtain ⟨ys, yb, ye, yt, yr, yn, yg⟩ := v
  unfold wpX_equivalent wpY_equivalent
  dsimp only
  rcases ww_cs v1 with h | ⟨a, ha, rfl⟩
  · refine xx_auB _ h ?_
    refine br_t rfl ?_
    refine yy_bdB _ _ h ?_
    exact br_f (by decide) ⟨rfl, I⟩
  · rcases ww_cs v2 with h | ⟨b, hb, rfl⟩
    · refine xx_au a ha ?_
      refine br_f (by decide) ?_
      refine xx_auB _ h ?_
      refine br_t rfl ?_
      refine yy_bd _ a ha ?_
      refine br_t rfl ?_
      refine yy_bdB _ _ h ?_
      exact br_f (by decide) ⟨rfl, I⟩
    · obtain ⟨n, B, E, T, ok, ax, ay⟩ := I a ha
      obtain ⟨m, B', E', T', ok', ax', ay'⟩ := I b hb
      refine xx_au a ha ?_
      refine br_f (by decide) ?_
      refine xx_au b hb ?_
      refine br_f (by decide) ?_
      refine xx_ld ha hb ok ax ok' ax' _ (fun _ => rfl) _ _ _ (fun re rn => ?_)
      refine br_c (fun z => ?_) (fun z => ?_)
      · refine yy_bd _ a ha ?_
        refine br_t rfl ?_
        refine yy_bd _ b hb ?_
        refine br_t rfl ?_
        refine yy_ap ha hb ok ay ok' ay' _ (fun _ => rfl) _ _ _ (fun re' rn' => ?_)
        exact br_t z ⟨rfl, I⟩
      · refine yy_bd _ a ha ?_
        refine br_t rfl ?_
        refine yy_bd _ b hb ?_
        refine br_t rfl ?_
        refine yy_ap ha hb ok ay ok' ay' _ (fun _ => rfl) _ _ _ (fun re' rn' => ?_)
        exact br_f z ⟨rfl, I⟩
def ww_it (M : Nat → Nat → Nat) : Nat → (Nat → Nat) → (Nat → Nat)
  | 0, v => v
  | k + 1, v => ww_it M k (ww_go M v)
theorem xx_t30 {post : Int32 → SX → Prop} {a n : Nat} {B E : Nat → Nat} {T : Nat → Nat → Nat → Nat} {sz st en tr : Nat → Int32} (ha : a < 3) (ok : ww_OK n B E T) (ax : ww_AX a n B E T sz st en tr) (tb : Nat → Int32) (N : Nat) (hN : N ≤ 200) : ∀ d i (v : Nat → Nat) (re rn : Nat → Int32), i + d = N → (∀ q, v q < 997) → (∀ q, q < n → re q = nI (v q)) → (∀ re' rn', post (nI (ww_fin E (ww_it (fun p q => T 0 p q + T 1 p q) d v))) (sz, st, en, tr, re', rn', tb)) → wX_total_30 post (nI a) (nI N) (d + 1) (nI i) sz st en tr re rn tb := by
  intro d
  induction d with
  | zero =>
    intro i v re rn hi hv hr H
    exact pk_le N i (fun _ => xx_wr ha ok ax re rn tb v hv hr (H re rn)) (fun h => by omega)
  | succ d ih =>
    intro i v re rn hi hv hr H
    refine pk_le N i (fun h => by omega) (fun h => ?_)
    refine xx_ro ha ok ax re rn tb v hv hr (fun p q => T 0 p q + T 1 p q) 0 1 (Or.inr ⟨rfl, rfl, fun _ _ => rfl⟩) (fun re' rn' h' => nm_r (nI_1 i) (ih (i + 1) _ re' rn' (by omega) (ww_go_lt _ _) h' H))
theorem yy_t31 {post : Int32 → SY → Prop} {a n : Nat} {B E : Nat → Nat} {T : Nat → Nat → Nat → Nat} {sz st en tr : Nat → Int32} (ha : a < 3) (ok : ww_OK n B E T) (ay : ww_AY a n B E T sz st en tr) (tb : Nat → Int32) (N : Nat) (hN : N ≤ 200) : ∀ d i (v : Nat → Nat) (re rn : Nat → Int32), i + d = N → (∀ q, v q < 997) → (∀ q, q < 4 → re q = nI (v q)) → (∀ re' rn', post (nI (ww_fin E (ww_it (fun p q => T 0 p q + T 1 p q) d v))) (sz, st, en, tr, re', rn', tb)) → wY_total_31 post (nI a) (nI N) (d + 1) (nI i) sz st en tr re rn tb := by
  intro d
  induction d with
  | zero =>
    intro i v re rn hi hv hr H
    exact pk_le N i (fun _ => yy_finish ha ok ay re rn tb v hv hr (H re rn)) (fun h => by omega)
  | succ d ih =>
    intro i v re rn hi hv hr H
    refine pk_le N i (fun h => by omega) (fun h => ?_)
    refine yy_go ha ok ay re rn tb v hv hr (fun p q => T 0 p q + T 1 p q) 2 (Or.inr ⟨rfl, fun _ _ => rfl⟩) (fun re' rn' h' => nm_r (nI_1 i) (ih (i + 1) _ re' rn' (by omega) (ww_go_lt _ _) h' H))
theorem i_vc_total {k : Nat} {u : SX} {v : SY} (I : i_Rel k u v) (hk : k + 5 ≤ 2560) (v1 : Int32) (v2 : Int32) : wpX_total (fun r u' => wpY_total (fun r' v' => r' = r ∧ i_Rel (k + 5) u' v') v v1 v2) u v1 v2 := by
  obtain ⟨xs, xb, xe, xt, xr, xn, xg⟩ := u
  obtain ⟨ys, yb, ye, yt, yr, yn, yg⟩ := v
  unfold wpX_total wpY_total
  dsimp only
  rcases ww_cs v1 with h | ⟨a, ha, rfl⟩
  · refine xx_auB _ h ?_
    refine br_t rfl ?_
    refine yy_bdB _ _ h ?_
    exact br_f (by decide) ⟨rfl, I⟩
  · obtain ⟨n, B, E, T, ok, ax, ay⟩ := I a ha
    by_cases h1 : v2 < 0
    · refine xx_au a ha ?_
      refine br_f (by decide) ?_
      refine br_t h1 ?_
      refine yy_bd _ a ha ?_
      refine br_t rfl ?_
      exact br_t h1 ⟨rfl, I⟩
    · by_cases h2 : v2 ≤ 200
      · obtain ⟨N, c1, c2, rfl⟩ := ww_rng 0 200 h1 h2 (by decide) (by decide)
        refine xx_au a ha ?_
        refine br_f (by decide) ?_
        refine br_f h1 ?_
        refine br_t h2 ?_
        refine xx_rs ha ok.1.2 ax _ _ _ (fun re hr => ?_)
        refine ⟨N + 1, ?_⟩
        refine xx_t30 ha ok ax _ N c2 N 0 B re _ (by omega) ok.2.1 hr (fun re1 rn1 => ?_)
        refine yy_bd _ a ha ?_
        refine br_t rfl ?_
        refine br_f h1 ?_
        refine br_t h2 ?_
        refine yy_begin ha ay _ _ _ (fun re2 hr2 => ?_)
        refine ⟨N + 1, ?_⟩
        exact yy_t31 ha ok ay _ N c2 N 0 B re2 _ (by omega) ok.2.1 hr2 (fun re3 rn3 => ⟨rfl, I⟩)
      · refine xx_au a ha ?_
        refine br_f (by decide) ?_
        refine br_f h1 ?_
        refine br_f h2 ?_
        refine yy_bd _ a ha ?_
        refine br_t rfl ?_
        refine br_f h1 ?_
        exact br_f h2 ⟨rfl, I⟩
theorem xx_f11 {post : Int32 → SX → Prop} {a n : Nat} {B E : Nat → Nat} {T : Nat → Nat → Nat → Nat} {sz st en tr : Nat → Int32} (ha : a < 3) (ok : ww_OK n B E T) (ax : ww_AX a n B E T sz st en tr) (g : Nat → Bool) (hg : ∀ c, g c = ww_ne (ww_wt B E T c) 0) (tb : Nat → Int32) : ∀ d i (re rn : Nat → Int32), i + d = 16 → 1 ≤ i → (∀ re' rn', post (nI (ww_ff g d i)) (sz, st, en, tr, re', rn', tb)) → wX_first_11 post (nI a) (d + 1) (nI i) sz st en tr re rn tb := by
  intro d
  induction d with
  | zero =>
    intro i re rn hi h1 H
    exact pk_lt 15 i (fun _ => H re rn) (fun h => by omega)
  | succ d ih =>
    intro i re rn hi h1 H
    refine pk_lt 15 i (fun h => by omega) (fun h => ?_)
    refine xx_wo ha ok ax re rn tb i h1 (by omega) (fun re2 rn2 => ?_)
    have l1 := ww_wt_lt B E T i
    refine pk_eq (ww_wt B E T i) 0 (fun e => nm_r (nI_1 i) (ih (i + 1) re2 rn2 (by omega) (by omega) ?_)) (fun e => ?_)
    · intro re' rn'
      have := H re' rn'
      rw [ww_ff_f ((hg i).trans (ww_ne_f e))] at this
      exact this
    · have := H re2 rn2
      rw [ww_ff_t ((hg i).trans (ww_ne_t e))] at this
      exact this
theorem yy_f12 {post : Int32 → SY → Prop} {a n : Nat} {B E : Nat → Nat} {T : Nat → Nat → Nat → Nat} {sz st en tr : Nat → Int32} (ha : a < 3) (ok : ww_OK n B E T) (ay : ww_AY a n B E T sz st en tr) (g : Nat → Bool) (hg : ∀ c, g c = ww_ne (ww_wt B E T c) 0) (tb : Nat → Int32) : ∀ d i (re rn : Nat → Int32), i + d = 256 → 1 ≤ i → (∀ re' rn', post (nI (ww_ff g d i)) (sz, st, en, tr, re', rn', tb)) → wY_first_12 post (nI a) (d + 1) (nI i) sz st en tr re rn tb := by
  intro d
  induction d with
  | zero =>
    intro i re rn hi h1 H
    exact pk_le 256 i (fun _ => H re rn) (fun h => by omega)
  | succ d ih =>
    intro i re rn hi h1 H
    refine pk_le 256 i (fun h => by omega) (fun h => ?_)
    refine yy_wo ha ok ay re rn tb i h1 (by omega) (fun re2 rn2 => ?_)
    have l1 := ww_wt_lt B E T i
    refine pk_eq (ww_wt B E T i) 0 (fun e => nm_r (nI_1 i) (ih (i + 1) re2 rn2 (by omega) (by omega) ?_)) (fun e => ?_)
    · intro re' rn'
      have := H re' rn'
      rw [ww_ff_f ((hg i).trans (ww_ne_f e))] at this
      exact this
    · have := H re2 rn2
      rw [ww_ff_t ((hg i).trans (ww_ne_t e))] at this
      exact this
theorem ww_first (B E : Nat → Nat) (T : Nat → Nat → Nat → Nat) : ww_ff (fun c => ww_ne (ww_wt B E T c) 0) 15 1 = ww_ff (fun c => ww_ne (ww_wt B E T c) 0) 255 1 := by
  refine ww_ff_more 240 15 1 (fun H c hc => ww_ne_f (ww_van (fun c' h1 h2 => ?_) c))
  have := H c' h1 (by omega)
  apply Classical.byContradiction
  intro hn
  rw [ww_ne_t hn] at this
  exact absurd this (by decide)
theorem i_vc_first {k : Nat} {u : SX} {v : SY} (I : i_Rel k u v) (hk : k + 5 ≤ 2560) (v1 : Int32) : wpX_first (fun r u' => wpY_first (fun r' v' => r' = r ∧ i_Rel (k + 5) u' v') v v1) u v1 := by
  obtain ⟨xs, xb, xe, xt, xr, xn, xg⟩ := u
  obtain ⟨ys, yb, ye, yt, yr, yn, yg⟩ := v
  unfold wpX_first wpY_first
  dsimp only
  rcases ww_cs v1 with h | ⟨a, ha, rfl⟩
  · refine xx_auB _ h ?_
    refine br_t rfl ?_
    refine yy_bdB _ _ h ?_
    exact br_f (by decide) ⟨rfl, I⟩
  · obtain ⟨n, B, E, T, ok, ax, ay⟩ := I a ha
    refine xx_au a ha ?_
    refine br_f (by decide) ?_
    refine ⟨16, ?_⟩
    refine xx_f11 ha ok ax _ (fun _ => rfl) _ 15 1 _ _ (by omega) (by omega) (fun re rn => ?_)
    refine yy_bd _ a ha ?_
    refine br_t rfl ?_
    refine ⟨256, ?_⟩
    exact yy_f12 ha ok ay _ (fun _ => rfl) _ 255 1 _ _ (by omega) (by omega) (fun re' rn' => ⟨congrArg nI (ww_first B E T).symm, I⟩)
section
variable {a b c n m l : Nat} {B E B1 E1 B2 E2 : Nat → Nat} {T T1 T2 : Nat → Nat → Nat → Nat} {sz st en tr : Nat → Int32}
theorem xx_is {post : Int32 → SX → Prop} (ha : a < 3) (hb : b < 3) (hc : c < 3) (ok : ww_OK n B E T) (ax : ww_AX a n B E T sz st en tr) (ok1 : ww_OK m B1 E1 T1) (ax1 : ww_AX b m B1 E1 T1 sz st en tr) (ok2 : ww_OK l B2 E2 T2) (ax2 : ww_AX c l B2 E2 T2 sz st en tr) (g : Nat → Bool) (hg : ∀ c, g c = ww_ne ((ww_wt B E T c + ww_wt B1 E1 T1 c) % 997) (ww_wt B2 E2 T2 c)) (tb : Nat → Int32) : ∀ d i (re rn : Nat → Int32), i + d = 4096 → 1 ≤ i → (∀ re' rn', post (nI (ww_al g d i)) (sz, st, en, tr, re', rn', tb)) → wX_isSum_26 post (nI a) (nI b) (nI c) (d + 1) (nI i) sz st en tr re rn tb := by
  intro d
  induction d with
  | zero =>
    intro i re rn hi h1 H
    exact pk_lt 4095 i (fun _ => H re rn) (fun h => by omega)
  | succ d ih =>
    intro i re rn hi h1 H
    refine pk_lt 4095 i (fun h => by omega) (fun h => ?_)
    refine xx_wo ha ok ax re rn tb i h1 (by omega) (fun re1 rn1 => ?_)
    refine xx_wo hb ok1 ax1 re1 rn1 tb i h1 (by omega) (fun re2 rn2 => ?_)
    have l1 := ww_wt_lt B E T i
    have l2 := ww_wt_lt B1 E1 T1 i
    have l3 := ww_wt_lt B2 E2 T2 i
    refine nm_r (nI_add _ _) (xx_resN _ (by omega) ?_)
    refine xx_wo hc ok2 ax2 re2 rn2 tb i h1 (by omega) (fun re3 rn3 => ?_)
    refine pk_eq ((ww_wt B E T i + ww_wt B1 E1 T1 i) % 997) (ww_wt B2 E2 T2 i) (fun e => nm_r (nI_1 i) (ih (i + 1) re3 rn3 (by omega) (by omega) ?_)) (fun e => ?_)
    · intro re' rn'
      have := H re' rn'
      rw [ww_al_f ((hg i).trans (ww_ne_f e))] at this
      exact this
    · have := H re3 rn3
      rw [ww_al_t ((hg i).trans (ww_ne_t e))] at this
      exact this
theorem yy_is {post : Int32 → SY → Prop} (ha : a < 3) (hb : b < 3) (hc : c < 3) (ok : ww_OK n B E T) (ax : ww_AY a n B E T sz st en tr) (ok1 : ww_OK m B1 E1 T1) (ax1 : ww_AY b m B1 E1 T1 sz st en tr) (ok2 : ww_OK l B2 E2 T2) (ax2 : ww_AY c l B2 E2 T2 sz st en tr) (g : Nat → Bool) (hg : ∀ c, g c = ww_ne ((ww_wt B E T c + ww_wt B1 E1 T1 c) % 997) (ww_wt B2 E2 T2 c)) (tb : Nat → Int32) : ∀ d i (re rn : Nat → Int32), i + d = 4096 → 1 ≤ i → (∀ re' rn', post (nI (ww_al g d i)) (sz, st, en, tr, re', rn', tb)) → wY_isSum_29 post (nI a) (nI b) (nI c) (d + 1) (nI i) sz st en tr re rn tb := by
  intro d
  induction d with
  | zero =>
    intro i re rn hi h1 H
    exact pk_le 4096 i (fun _ => H re rn) (fun h => by omega)
  | succ d ih =>
    intro i re rn hi h1 H
    refine pk_le 4096 i (fun h => by omega) (fun h => ?_)
    refine yy_wo ha ok ax re rn tb i h1 (by omega) (fun re1 rn1 => ?_)
    refine yy_wo hb ok1 ax1 re1 rn1 tb i h1 (by omega) (fun re2 rn2 => ?_)
    have l1 := ww_wt_lt B E T i
    have l2 := ww_wt_lt B1 E1 T1 i
    have l3 := ww_wt_lt B2 E2 T2 i
    refine yy_wo hc ok2 ax2 re2 rn2 tb i h1 (by omega) (fun re3 rn3 => ⟨ww_ne997, ?_⟩)
    refine pk_eq ((ww_wt B E T i + ww_wt B1 E1 T1 i) % 997) (ww_wt B2 E2 T2 i) (fun e => nm_r (nI_1 i) (ih (i + 1) re3 rn3 (by omega) (by omega) ?_)) (fun e => ?_) (hx := by rw [nI_add, ww_rem _ (by omega)])
    · intro re' rn'
      have := H re' rn'
      rw [ww_al_f ((hg i).trans (ww_ne_f e))] at this
      exact this
    · have := H re3 rn3
      rw [ww_al_t ((hg i).trans (ww_ne_t e))] at this
      exact this
end
theorem i_vc_isSum {k : Nat} {u : SX} {v : SY} (I : i_Rel k u v) (hk : k + 5 ≤ 2560) (v1 : Int32) (v2 : Int32) (v3 : Int32) : wpX_isSum (fun r u' => wpY_isSum (fun r' v' => r' = r ∧ i_Rel (k + 5) u' v') v v1 v2 v3) u v1 v2 v3 := by
  obtain ⟨xs, xb, xe, xt, xr, xn, xg⟩ := u
  obtain ⟨ys, yb, ye, yt, yr, yn, yg⟩ := v
  unfold wpX_isSum wpY_isSum
  dsimp only
  rcases ww_cs v1 with h | ⟨a, ha, rfl⟩
  · refine xx_auB _ h ?_
    refine br_t rfl ?_
    refine yy_bdB _ _ h ?_
    exact br_f (by decide) ⟨rfl, I⟩
  rcases ww_cs v2 with h | ⟨b, hb, rfl⟩
  · refine xx_au a ha ?_
    refine br_f (by decide) ?_
    refine xx_auB _ h ?_
    refine br_t rfl ?_
    refine yy_bd _ a ha ?_
    refine br_t rfl ?_
    refine yy_bdB _ _ h ?_
    exact br_f (by decide) ⟨rfl, I⟩
  rcases ww_cs v3 with h | ⟨c, hc, rfl⟩
  · refine xx_au a ha ?_
    refine br_f (by decide) ?_
    refine xx_au b hb ?_
    refine br_f (by decide) ?_
    refine xx_auB _ h ?_
    refine br_t rfl ?_
    refine yy_bd _ a ha ?_
    refine br_t rfl ?_
    refine yy_bd _ b hb ?_
    refine br_t rfl ?_
    refine yy_bdB _ _ h ?_
    exact br_f (by decide) ⟨rfl, I⟩
  obtain ⟨n, B, E, T, ok, ax, ay⟩ := I a ha
  obtain ⟨m, B1, E1, T1, ok1, ax1, ay1⟩ := I b hb
  obtain ⟨l, B2, E2, T2, ok2, ax2, ay2⟩ := I c hc
  refine xx_au a ha ?_
  refine br_f (by decide) ?_
  refine xx_au b hb ?_
  refine br_f (by decide) ?_
  refine xx_au c hc ?_
  refine br_f (by decide) ?_
  refine ⟨4096, ?_⟩
  refine xx_is ha hb hc ok ax ok1 ax1 ok2 ax2 _ (fun _ => rfl) _ 4095 1 _ _ (by omega) (by omega) (fun re rn => ?_)
  refine yy_bd _ a ha ?_
  refine br_t rfl ?_
  refine yy_bd _ b hb ?_
  refine br_t rfl ?_
  refine yy_bd _ c hc ?_
  refine br_t rfl ?_
  refine ⟨4096, ?_⟩
  exact yy_is ha hb hc ok ay ok1 ay1 ok2 ay2 _ (fun _ => rfl) _ 4095 1 _ _ (by omega) (by omega) (fun re' rn' => ⟨rfl, I⟩)
