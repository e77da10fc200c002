/-! mirror -/
theorem ww_s1 {n : Nat} (h : 1 ≤ n) : nI n - 1 = nI (n - 1) := pk_sub (b := 1) h
theorem ww_ixm (a n p : Nat) (hp : p < n) : (4 : Int32) * nI a + nI n - 1 - nI p = nI (4 * a + (n - 1 - p)) := by
  rw [ix_4, ww_s1 (by omega), pk_sub (by omega)]
  exact congrArg nI (by omega)
theorem ww_ixn (a c n p q : Nat) (hp : p < n) (hq : q < n) : (32 : Int32) * nI a + 16 * nI c + 4 * (nI n - 1 - nI p) + nI n - 1 - nI q = nI (32 * a + 16 * c + 4 * (n - 1 - p) + (n - 1 - q)) := by
  rw [ww_s1 (show 1 ≤ n by omega), pk_sub (show p ≤ n - 1 by omega), ix_s, ww_s1 (by omega), pk_sub (by omega)]
  exact congrArg nI (by omega)
section
variable {a b n : Nat} {B E : Nat → Nat} {T : Nat → Nat → Nat → Nat} {sz st en : Nat → Int32}
theorem xx_ms {post : SX → Prop} (ha : a < 3) (hb : b < 3) (hab : a ≠ b) (h1 : 1 ≤ n) (hn : n ≤ 4) (hz : sz b = nI n) (tr re rn tb : Nat → Int32) (c : Nat) (hc : c < 2) (hT : ∀ c p q, c < 2 → p < n → q < n → tr (32 * b + 16 * c + 4 * p + q) = nI (T c p q)) (H : ∀ tr', ww_W (fun j => j / 32 = a ∧ j % 32 / 16 = c ∧ j % 16 / 4 < n ∧ j % 4 < n) (fun j => nI (T (j % 32 / 16) (n - 1 - j % 16 / 4) (n - 1 - j % 4))) tr tr' → post (sz, st, en, tr', re, rn, tb)) : wpX_mirrorSteps post (sz, st, en, tr, re, rn, tb) (nI a) (nI b) (nI c) := by
  have k2 : ∀ (J13 : Int32 → (Nat → Int32) → (Nat → Int32) → (Nat → Int32) → (Nat → Int32) → (Nat → Int32) → (Nat → Int32) → (Nat → Int32) → Prop) (p : Nat), p < n → ∀ tr0, (∀ j, j / 32 = b → tr0 j = tr j) → (∀ tr', ww_W (fun j => j / 32 = a ∧ j % 32 / 16 = c ∧ j % 16 / 4 = n - 1 - p ∧ j % 4 < n) (fun j => nI (T (j % 32 / 16) (n - 1 - j % 16 / 4) (n - 1 - j % 4))) tr0 tr' → J13 (nI (p + 1)) sz st en tr' re rn tb) → ∀ d i tr', i + d = n → ww_W (fun j => j / 32 = a ∧ j % 32 / 16 = c ∧ j % 16 / 4 = n - 1 - p ∧ j % 4 < n ∧ n - i ≤ j % 4) (fun j => nI (T (j % 32 / 16) (n - 1 - j % 16 / 4) (n - 1 - j % 4))) tr0 tr' → wX_mirrorSteps_23 post J13 (nI a) (nI b) (nI c) (nI (n - 1)) (nI p) (d + 1) (nI i) sz st en tr' re rn tb := by
    intro J13 p hp tr0 hbk HJ d
    induction d with
    | zero =>
      intro i tr' hi hw
      exact pk_lt (n - 1) i (fun _ => nm_r (nI_1 p) (HJ tr' (ww_Wi hw (fun j => by omega)))) (fun h => by omega)
    | succ d ih =>
      intro i tr' hi hw
      refine pk_lt (n - 1) i (fun h => by omega) (fun h => ?_)
      rw [pk_sub (show p ≤ n - 1 by omega), pk_sub (show i ≤ n - 1 by omega)]
      refine xx_st b c p i ?_
      refine xx_st a c (n - 1 - p) (n - 1 - i) ?_
      refine ⟨vp_in_nI (by omega) (by decide), ww_put (32 * a + 16 * c + 4 * (n - 1 - p) + (n - 1 - i)) rfl (by omega) (by decide) (nm_r (nI_1 i) (ih (i + 1) _ (by omega) (ww_W1 hw ?_ (fun j => by omega))))⟩
      rw [ww_rd (32 * b + 16 * c + 4 * p + i) rfl (by omega) ((((hw (32 * b + 16 * c + 4 * p + i)).2 (by omega)).trans (hbk _ (by omega))).trans (hT c p i hc hp (by omega)))]
      rw [show (32 * a + 16 * c + 4 * (n - 1 - p) + (n - 1 - i)) % 32 / 16 = c by omega, show n - 1 - (32 * a + 16 * c + 4 * (n - 1 - p) + (n - 1 - i)) % 16 / 4 = p by omega, show n - 1 - (32 * a + 16 * c + 4 * (n - 1 - p) + (n - 1 - i)) % 4 = i by omega]
  have k1 : ∀ d i tr', i + d = n → ww_W (fun j => j / 32 = a ∧ j % 32 / 16 = c ∧ j % 16 / 4 < n ∧ n - i ≤ j % 16 / 4 ∧ j % 4 < n) (fun j => nI (T (j % 32 / 16) (n - 1 - j % 16 / 4) (n - 1 - j % 4))) tr tr' → wX_mirrorSteps_13 post (nI a) (nI b) (nI c) (nI (n - 1)) (d + 1) (nI i) sz st en tr' re rn tb := by
    intro d
    induction d with
    | zero =>
      intro i tr' hi hw
      exact pk_lt (n - 1) i (fun _ => H tr' (ww_Wi hw (fun j => by omega))) (fun h => by omega)
    | succ d ih =>
      intro i tr' hi hw
      refine pk_lt (n - 1) i (fun h => by omega) (fun h => ⟨n + 1, ?_⟩)
      refine k2 _ i (by omega) tr' (fun j hj => (hw j).2 (by omega)) (fun tr2 hw2 => ih (i + 1) tr2 (by omega) (ww_WW hw hw2 (fun j => by omega))) n 0 tr' (by omega) (ww_W0 (fun j => by omega))
  refine ⟨ww_a3 b hb, nm_r ?_ ⟨n + 1, k1 n 0 tr (by omega) (ww_W0 (fun j => by omega))⟩⟩
  rw [ww_rd b rfl (by omega) hz, ww_s1 h1]
theorem xx_mi {post : Int32 → SX → Prop} (ha : a < 3) (hb : b < 3) (hab : a ≠ b) (h1 : 1 ≤ n) (hn : n ≤ 4) (st en tr re rn tb : Nat → Int32) (ax : ww_AX b n B E T sz st en tr) (H : ∀ st' en' tr', ww_W (fun j => j / 4 = a ∧ j % 4 < n) (fun j => nI (B (n - 1 - j % 4))) st st' → ww_W (fun j => j / 4 = a ∧ j % 4 < n) (fun j => nI (E (n - 1 - j % 4))) en en' → ww_W (fun j => j / 32 = a ∧ j % 16 / 4 < n ∧ j % 4 < n) (fun j => nI (T (j % 32 / 16) (n - 1 - j % 16 / 4) (n - 1 - j % 4))) tr tr' → post 0 (sz, st', en', tr', re, rn, tb)) : ∃ n38, wX_mirror_38 post (nI a) (nI b) n38 0 sz st en tr re rn tb := by
  obtain ⟨hz, p2, p3, p4⟩ := ax
  have k2 : ∀ st' en', ww_W (fun j => j / 4 = a ∧ j % 4 < n) (fun j => nI (B (n - 1 - j % 4))) st st' → ww_W (fun j => j / 4 = a ∧ j % 4 < n) (fun j => nI (E (n - 1 - j % 4))) en en' → ∀ d i tr', i + d = 2 → ww_W (fun j => j / 32 = a ∧ j % 32 / 16 < i ∧ j % 16 / 4 < n ∧ j % 4 < n) (fun j => nI (T (j % 32 / 16) (n - 1 - j % 16 / 4) (n - 1 - j % 4))) tr tr' → wX_mirror_107 post (nI a) (nI b) (d + 1) (nI i) sz st' en' tr' re rn tb := by
    intro st' en' q1 q2 d
    induction d with
    | zero =>
      intro i tr' hi hw
      exact pk_le 2 i (fun _ => H st' en' tr' q1 q2 (ww_Wi hw (fun j => by omega))) (fun h => by omega)
    | succ d ih =>
      intro i tr' hi hw
      refine pk_le 2 i (fun h => by omega) (fun h => ?_)
      exact xx_ms ha hb hab h1 hn hz tr' re rn tb i h (fun c p q hc hp hq => ((hw _).2 (by omega)).trans (p4 c p q hc hp hq)) (fun tr2 hw2 => nm_r (nI_1 i) (ih (i + 1) tr2 (by omega) (ww_WW hw hw2 (fun j => by omega))))
  have k1 : ∀ d i st' en', i + d = n → ww_W (fun j => j / 4 = a ∧ j % 4 < n ∧ n - i ≤ j % 4) (fun j => nI (B (n - 1 - j % 4))) st st' → ww_W (fun j => j / 4 = a ∧ j % 4 < n ∧ n - i ≤ j % 4) (fun j => nI (E (n - 1 - j % 4))) en en' → wX_mirror_38 post (nI a) (nI b) (d + 1) (nI i) sz st' en' tr re rn tb := by
    intro d
    induction d with
    | zero =>
      intro i st' en' hi q1 q2
      exact ⟨ww_a3 b hb, pk_le n i (fun _ => ⟨3, k2 st' en' (ww_Wi q1 (fun j => by omega)) (ww_Wi q2 (fun j => by omega)) 2 0 tr (by omega) (ww_W0 (fun j => by omega))⟩) (fun h => by omega) (hx := ww_rd b rfl (by omega) hz)⟩
    | succ d ih =>
      intro i st' en' hi q1 q2
      refine ⟨ww_a3 b hb, pk_le n i (fun h => by omega) (fun h => ?_) (hx := ww_rd b rfl (by omega) hz)⟩
      refine xx_sc b i ⟨ww_a3 b hb, ?_⟩
      rw [ww_rd b rfl (by omega) hz, ww_s1 h1, pk_sub (show i ≤ n - 1 by omega)]
      refine xx_sc a (n - 1 - i) ?_
      have vb : vp_in (nI (4 * b + i)) 12 := vp_in_nI (by omega) (by decide)
      refine ⟨vb, ww_put (4 * a + (n - 1 - i)) rfl (by omega) (by decide) ⟨vb, ww_put (4 * a + (n - 1 - i)) rfl (by omega) (by decide) (nm_r (nI_1 i) (ih (i + 1) _ _ (by omega) (ww_W1 q1 ?_ (fun j => by omega)) (ww_W1 q2 ?_ (fun j => by omega))))⟩⟩
      · rw [ww_rd (4 * b + i) rfl (by omega) (((q1 (4 * b + i)).2 (by omega)).trans (p2 i h)), show n - 1 - (4 * a + (n - 1 - i)) % 4 = i by omega]
      · rw [ww_rd (4 * b + i) rfl (by omega) (((q2 (4 * b + i)).2 (by omega)).trans (p3 i h)), show n - 1 - (4 * a + (n - 1 - i)) % 4 = i by omega]
  exact ⟨n + 1, k1 n 0 st en (by omega) (ww_W0 (fun j => by omega)) (ww_W0 (fun j => by omega))⟩
theorem yy_mi {post : Int32 → SY → Prop} (ha : a < 3) (hb : b < 3) (hab : a ≠ b) (h1 : 1 ≤ n) (hn : n ≤ 4) (sz st en tr re rn tb : Nat → Int32) (r2 : ∀ q, q < n → st (4 * b + q) = nI (B q)) (r3 : ∀ q, q < n → en (4 * b + q) = nI (E q)) (r4 : ∀ c p q, c < 2 → p < n → q < n → tr (32 * b + 16 * c + 4 * p + q) = nI (T c p q)) (H : ∀ st' en' tr', ww_W (fun j => j / 4 = a ∧ j % 4 < n) (fun j => nI (B (n - 1 - j % 4))) st st' → ww_W (fun j => j / 4 = a ∧ j % 4 < n) (fun j => nI (E (n - 1 - j % 4))) en en' → ww_W (fun j => j / 32 = a ∧ j % 16 / 4 < n ∧ j % 4 < n) (fun j => nI (T (j % 32 / 16) (n - 1 - j % 16 / 4) (n - 1 - j % 4))) tr tr' → post 0 (sz, st', en', tr', re, rn, tb)) : ∃ n43, wY_mirror_43 post (nI a) (nI b) (nI n) n43 0 sz st en tr re rn tb := by
  have n4 : ¬ (4 : Int32) = 0 := by decide
  have k2 : ∀ (J43 : Int32 → (Nat → Int32) → (Nat → Int32) → (Nat → Int32) → (Nat → Int32) → (Nat → Int32) → (Nat → Int32) → (Nat → Int32) → Prop) (st' en' : Nat → Int32) (p : Nat), p < n → ∀ tr0, (∀ j, j / 32 = b → tr0 j = tr j) → (∀ tr', ww_W (fun j => j / 32 = a ∧ j % 16 / 4 = n - 1 - p ∧ j % 4 < n) (fun j => nI (T (j % 32 / 16) (n - 1 - j % 16 / 4) (n - 1 - j % 4))) tr0 tr' → J43 (nI (p + 1)) sz st' en' tr' re rn tb) → ∀ d i tr', i + d = 8 → ww_W (fun j => j / 32 = a ∧ j % 16 / 4 = n - 1 - p ∧ j % 4 < n ∧ 4 * (j % 32 / 16) + (n - 1 - j % 4) < i) (fun j => nI (T (j % 32 / 16) (n - 1 - j % 16 / 4) (n - 1 - j % 4))) tr0 tr' → wY_mirror_110 post J43 (nI a) (nI b) (nI n) (nI p) (d + 1) (nI i) sz st' en' tr' re rn tb := by
    intro J43 st' en' p hp tr0 hbk HJ d
    induction d with
    | zero =>
      intro i tr' hi hw
      exact pk_le 8 i (fun _ => nm_r (nI_1 p) (HJ tr' (ww_Wi hw (fun j => by omega)))) (fun h => by omega)
    | succ d ih =>
      intro i tr' hi hw
      refine pk_le 8 i (fun h => by omega) (fun h => ?_)
      refine ⟨n4, nm_r (ww_qY i (by omega)) ⟨n4, nm_r (ww_dY i (by omega)) (pk_le n (i % 4) (fun h => ?_) (fun h => ?_))⟩⟩
      · exact nm_r (nI_1 i) (ih (i + 1) tr' (by omega) (ww_Wi hw (fun j => by omega)))
      · refine ⟨pk_in (32 * b + 16 * (i / 4) + 4 * p + i % 4) 96 (by omega) (ix_s _ _ _ _), ww_put (32 * a + 16 * (i / 4) + 4 * (n - 1 - p) + (n - 1 - i % 4)) (ww_ixn _ _ _ _ _ hp h) (by omega) (by decide) (nm_r (nI_1 i) (ih (i + 1) _ (by omega) (ww_W1 hw ?_ (fun j => by omega))))⟩
        rw [ww_rd (32 * b + 16 * (i / 4) + 4 * p + i % 4) (ix_s _ _ _ _) (by omega) ((((hw (32 * b + 16 * (i / 4) + 4 * p + i % 4)).2 (by omega)).trans (hbk _ (by omega))).trans (r4 (i / 4) p (i % 4) (by omega) hp h))]
        rw [show (32 * a + 16 * (i / 4) + 4 * (n - 1 - p) + (n - 1 - i % 4)) % 32 / 16 = i / 4 by omega, show n - 1 - (32 * a + 16 * (i / 4) + 4 * (n - 1 - p) + (n - 1 - i % 4)) % 16 / 4 = p by omega, show n - 1 - (32 * a + 16 * (i / 4) + 4 * (n - 1 - p) + (n - 1 - i % 4)) % 4 = i % 4 by omega]
  have k1 : ∀ d i st' en' tr', i + d = n → ww_W (fun j => j / 4 = a ∧ j % 4 < n ∧ n - i ≤ j % 4) (fun j => nI (B (n - 1 - j % 4))) st st' → ww_W (fun j => j / 4 = a ∧ j % 4 < n ∧ n - i ≤ j % 4) (fun j => nI (E (n - 1 - j % 4))) en en' → ww_W (fun j => j / 32 = a ∧ j % 16 / 4 < n ∧ n - i ≤ j % 16 / 4 ∧ j % 4 < n) (fun j => nI (T (j % 32 / 16) (n - 1 - j % 16 / 4) (n - 1 - j % 4))) tr tr' → wY_mirror_43 post (nI a) (nI b) (nI n) (d + 1) (nI i) sz st' en' tr' re rn tb := by
    intro d
    induction d with
    | zero =>
      intro i st' en' tr' hi q1 q2 q3
      exact pk_le n i (fun _ => H st' en' tr' (ww_Wi q1 (fun j => by omega)) (ww_Wi q2 (fun j => by omega)) (ww_Wi q3 (fun j => by omega))) (fun h => by omega)
    | succ d ih =>
      intro i st' en' tr' hi q1 q2 q3
      refine pk_le n i (fun h => by omega) (fun h => pk_le 4 i (fun h => by omega) (fun _ => ?_))
      have vb : vp_in (4 * nI b + nI i) 12 := pk_in (4 * b + i) 12 (by omega) (ix_4 b i)
      refine ⟨vb, ww_put (4 * a + (n - 1 - i)) (ww_ixm a n i h) (by omega) (by decide) ⟨vb, ww_put (4 * a + (n - 1 - i)) (ww_ixm a n i h) (by omega) (by decide) ⟨9, ?_⟩⟩⟩
      refine k2 _ _ _ i h tr' (fun j hj => (q3 j).2 (by omega)) (fun tr2 hw2 => ih (i + 1) _ _ tr2 (by omega) (ww_W1 q1 ?_ (fun j => by omega)) (ww_W1 q2 ?_ (fun j => by omega)) (ww_WW q3 hw2 (fun j => by omega))) 8 0 tr' (by omega) (ww_W0 (fun j => by omega))
      · rw [ww_rd (4 * b + i) (ix_4 b i) (by omega) (((q1 (4 * b + i)).2 (by omega)).trans (r2 i h)), show n - 1 - (4 * a + (n - 1 - i)) % 4 = i by omega]
      · rw [ww_rd (4 * b + i) (ix_4 b i) (by omega) (((q2 (4 * b + i)).2 (by omega)).trans (r3 i h)), show n - 1 - (4 * a + (n - 1 - i)) % 4 = i by omega]
  exact ⟨n + 1, k1 n 0 st en tr (by omega) (ww_W0 (fun j => by omega)) (ww_W0 (fun j => by omega)) (ww_W0 (fun j => by omega))⟩
end
theorem i_vc_mirror {k : Nat} {u : SX} {v : SY} (I : i_Rel k u v) (hk : k + 5 ≤ 2560) (v1 : Int32) (v2 : Int32) : wpX_mirror (fun r u' => wpY_mirror (fun r' v' => r' = r ∧ i_Rel (k + 5) u' v') v v1 v2) u v1 v2 := by
  obtain ⟨xs, xb, xe, xt, xr, xn, xg⟩ := u
  obtain ⟨ys, yb, ye, yt, yr, yn, yg⟩ := v
  unfold wpX_mirror wpY_mirror
  dsimp only
  rcases ww_cs v1 with h | ⟨a, ha, rfl⟩
  · refine xx_auB _ h ?_
    refine br_t rfl ?_
    refine yy_bdB _ _ h ?_
    exact br_f (by decide) ⟨rfl, I⟩
  rcases ww_cs v2 with h | ⟨b, hb, rfl⟩
  · refine xx_au a ha ?_
    refine br_f (by decide) ?_
    refine xx_auB _ h ?_
    refine br_t rfl ?_
    refine yy_bd _ a ha ?_
    refine br_t rfl ?_
    refine yy_bdB _ _ h ?_
    exact br_f (by decide) ⟨rfl, I⟩
  by_cases hab : a = b
  · subst hab
    refine xx_au a ha ?_
    refine br_f (by decide) ?_
    refine xx_au a ha ?_
    refine br_f (by decide) ?_
    refine br_t rfl ?_
    refine yy_bd _ a ha ?_
    refine br_t rfl ?_
    refine yy_bd _ a ha ?_
    refine br_t rfl ?_
    exact br_t rfl ⟨rfl, I⟩
  have hne : ¬ nI a = nI b := fun z => hab ((nI_eq (by omega) (by omega)).mp z)
  obtain ⟨n0, B0, E0, T0, ok0, ax0, ay0⟩ := I a ha
  obtain ⟨n, B, E, T, ok, ax, ay⟩ := I b hb
  obtain ⟨p1, p2, p3, p4⟩ := ax
  obtain ⟨r1, r2, r3, r4⟩ := ay
  obtain ⟨⟨o1, o2⟩, o3, o4, o5, o6, o7, o8⟩ := ok
  have a1 := ay0.1
  dsimp only at p1 p2 p3 p4 r1 r2 r3 r4 a1
  refine xx_au a ha ?_
  refine br_f (by decide) ?_
  refine xx_au b hb ?_
  refine br_f (by decide) ?_
  refine br_f hne ?_
  refine ⟨ww_a3 b hb, ww_put a rfl ha (by decide) ?_⟩
  rw [ww_rd b rfl (by omega) p1]
  refine xx_mi (B := B) (E := E) (T := T) ha hb hab o1 o2 _ _ _ _ _ _ ⟨(pk_un (fun z => hab z.symm)).trans p1, p2, p3, p4⟩ (fun st1 en1 tr1 w1 w2 w3 => ?_)
  refine yy_bd _ a ha ?_
  refine br_t rfl ?_
  refine yy_bd _ b hb ?_
  refine br_t rfl ?_
  refine br_f hne ?_
  refine ⟨ww_a3 b hb, nm_r (ww_rd b rfl (by omega) r1) ?_⟩
  refine yy_size ha _ _ _ _ _ _ _ a1 o1 o2 (fun st2 en2 tr2 y1 y2 y3 => ?_)
  refine yy_mi (B := B) (E := E) (T := T) ha hb hab o1 o2 _ _ _ _ _ _ _ (fun q hq => ((y1 (4 * b + q)).2 (by omega)).trans (r2 q (by omega))) (fun q hq => ((y2 (4 * b + q)).2 (by omega)).trans (r3 q (by omega))) (fun c p q hc hp hq => ((y3 (32 * b + 16 * c + 4 * p + q)).2 (by omega)).trans (r4 c p q hc (by omega) (by omega))) (fun st3 en3 tr3 z1 z2 z3 => ⟨rfl, ?_⟩)
  refine ww_mk I ⟨n, fun q => if q < n then B (n - 1 - q) else 0, fun q => if q < n then E (n - 1 - q) else 0, fun c p q => if p < n ∧ q < n then T c (n - 1 - p) (n - 1 - q) else 0, ⟨⟨o1, o2⟩, fun q => ?_, fun q hq => ?_, fun q => ?_, fun q hq => ?_, fun c p q => ?_, fun c p q hpq => ?_⟩, ⟨pk_us, fun q hq => ?_, fun q hq => ?_, fun c p q hc hp hq => ?_⟩, ⟨pk_us, fun q hq => ?_, fun q hq => ?_, fun c p q hc hp hq => ?_⟩⟩ ww_un (fun j hj => (w1 j).2 (by omega)) (fun j hj => (w2 j).2 (by omega)) (fun j hj => (w3 j).2 (by omega)) ww_un (fun j hj => ((z1 j).2 (by omega)).trans ((y1 j).2 hj)) (fun j hj => ((z2 j).2 (by omega)).trans ((y2 j).2 hj)) (fun j hj => ((z3 j).2 (by omega)).trans ((y3 j).2 hj))
  · dsimp only
    have := o3 (n - 1 - q)
    split <;> omega
  · dsimp only; rw [if_neg (by omega)]
  · dsimp only
    have := o5 (n - 1 - q)
    split <;> omega
  · dsimp only; rw [if_neg (by omega)]
  · dsimp only
    have := o7 c (n - 1 - p) (n - 1 - q)
    split <;> omega
  · dsimp only; rw [if_neg (by omega)]
  · refine ((w1 (4 * a + q)).1 (by omega)).trans ?_
    dsimp only
    rw [if_pos hq, show (4 * a + q) % 4 = q by omega]
  · refine ((w2 (4 * a + q)).1 (by omega)).trans ?_
    dsimp only
    rw [if_pos hq, show (4 * a + q) % 4 = q by omega]
  · refine ((w3 (32 * a + 16 * c + 4 * p + q)).1 (by omega)).trans ?_
    dsimp only
    rw [if_pos ⟨hp, hq⟩, show (32 * a + 16 * c + 4 * p + q) % 32 / 16 = c by omega, show (32 * a + 16 * c + 4 * p + q) % 16 / 4 = p by omega, show (32 * a + 16 * c + 4 * p + q) % 4 = q by omega]
  · dsimp only
    by_cases h : q < n
    · rw [if_pos h]
      refine ((z1 (4 * a + q)).1 (by omega)).trans ?_
      dsimp only
      rw [show (4 * a + q) % 4 = q by omega]
    · rw [if_neg h]
      exact ((z1 (4 * a + q)).2 (by omega)).trans ((y1 (4 * a + q)).1 (by omega))
  · dsimp only
    by_cases h : q < n
    · rw [if_pos h]
      refine ((z2 (4 * a + q)).1 (by omega)).trans ?_
      dsimp only
      rw [show (4 * a + q) % 4 = q by omega]
    · rw [if_neg h]
      exact ((z2 (4 * a + q)).2 (by omega)).trans ((y2 (4 * a + q)).1 (by omega))
  · dsimp only
    by_cases h : p < n ∧ q < n
    · rw [if_pos h]
      refine ((z3 (32 * a + 16 * c + 4 * p + q)).1 (by omega)).trans ?_
      dsimp only
      rw [show (32 * a + 16 * c + 4 * p + q) % 32 / 16 = c by omega, show (32 * a + 16 * c + 4 * p + q) % 16 / 4 = p by omega, show (32 * a + 16 * c + 4 * p + q) % 4 = q by omega]
    · rw [if_neg h]
      exact ((z3 (32 * a + 16 * c + 4 * p + q)).2 (by omega)).trans ((y3 (32 * a + 16 * c + 4 * p + q)).1 (by omega))
