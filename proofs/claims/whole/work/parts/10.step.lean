/-! step -/
theorem ww_p (j : Nat) (hj : j < 32) : (nI j >>> ((2 : Int32) &&& 31)) &&& 3 = nI (j / 4 % 4) := by
  rw [pk_shrN (by omega) _ 2 (by decide), pk_andN (by omega) 2 (by decide)]
theorem ww_q (j : Nat) (hj : j < 32) : nI j &&& 3 = nI (j % 4) := pk_andN (by omega) 2 (by decide)
theorem ww_pY (j : Nat) (hj : j < 32) : nI j / 4 - nI j / 4 / 4 * 4 = nI (j / 4 % 4) := by
  have e : nI j / 4 = nI (j / 4) := pk_div (d := 4) (by omega) (by decide) (by decide)
  rw [e]
  exact pk_rem (d := 4) (by omega) (by decide) (by decide)
theorem ww_qY (j : Nat) (hj : j < 2 ^ 31) : nI j - nI j / 4 * 4 = nI (j % 4) := pk_rem (d := 4) hj (by decide) (by decide)
theorem ww_dY (j : Nat) (hj : j < 2 ^ 31) : nI j / 4 = nI (j / 4) := pk_div (d := 4) hj (by decide) (by decide)
theorem xx_rtB {post : Int32 → Prop} {a n : Nat} {sz st en tr re rn tb : Nat → Int32} (ha : a < 3) (hs : sz a = nI n) (hn : n ≤ 4) (x : Int32) (hx : x < 0 ∨ nI 32 ≤ x ∨ ∃ j, j < 32 ∧ x = nI j ∧ ¬ (j / 4 % 4 < n ∧ j % 4 < n)) (h : post 0) : wpX_isRoute post (sz, st, en, tr, re, rn, tb) (nI a) x := by
  unfold wpX_isRoute
  dsimp only
  rcases hx with z | z | ⟨j, hj, rfl, hb⟩
  · exact br_t z h
  · exact br_c (fun _ => h) (fun _ => br_f (Int32.not_lt.mpr z) h)
  · refine br_f (nI_pos (by omega)) (br_t (nI_lt (b := 32) hj (by decide)) (nm_r (ww_p j hj) (nm_r (ww_q j hj) ?_)))
    by_cases h1 : j / 4 % 4 < n
    · refine xx_is1 ha hs hn _ h1 ?_
      refine br_f (by decide) ?_
      refine xx_isB ha hs _ (Or.inr (nI_le (by omega) (by omega))) ?_
      exact br_t rfl h
    · refine xx_isB ha hs _ (Or.inr (nI_le (by omega) (by omega))) ?_
      exact br_t rfl h
theorem xx_rt {post : Int32 → Prop} {a n : Nat} {sz st en tr re rn tb : Nat → Int32} (ha : a < 3) (hs : sz a = nI n) (hn : n ≤ 4) (j : Nat) (hj : j < 32) (h1 : j / 4 % 4 < n) (h2 : j % 4 < n) (h : post 1) : wpX_isRoute post (sz, st, en, tr, re, rn, tb) (nI a) (nI j) := by
  unfold wpX_isRoute
  dsimp only
  refine br_f (nI_pos (by omega)) (br_t (nI_lt (b := 32) hj (by decide)) (nm_r (ww_p j hj) (nm_r (ww_q j hj) ?_)))
  refine xx_is1 ha hs hn _ h1 ?_
  refine br_f (by decide) ?_
  refine xx_is1 ha hs hn _ h2 ?_
  exact br_f (by decide) h
theorem ww_tu {f : Nat → Int32} {T : Nat → Nat → Nat → Nat} {a j w n : Nat} (hj : j < 32) (hn : n ≤ 4) (h : ∀ c p q, c < 2 → p < n → q < n → f (32 * a + 16 * c + 4 * p + q) = nI (T c p q)) : ∀ c p q, c < 2 → p < n → q < n → upd f (32 * a + j) (nI w) (32 * a + 16 * c + 4 * p + q) = nI ((fun c p q => if c = j / 16 ∧ p = j / 4 % 4 ∧ q = j % 4 then w else T c p q) c p q) := by
  intro c p q hc hp hq
  by_cases e : c = j / 16 ∧ p = j / 4 % 4 ∧ q = j % 4
  · have e2 : 32 * a + 16 * c + 4 * p + q = 32 * a + j := by omega
    rw [e2, pk_us]
    simp [e]
  · rw [pk_un (by omega), h c p q hc hp hq]
    simp [e]
theorem i_vc_step {k : Nat} {u : SX} {v : SY} (I : i_Rel k u v) (hk : k + 5 ≤ 2560) (v1 : Int32) (v2 : Int32) (v3 : Int32) : wpX_step (fun r u' => wpY_step (fun r' v' => r' = r ∧ i_Rel (k + 5) u' v') v v1 v2 v3) u v1 v2 v3 := by
  obtain ⟨xs, xb, xe, xt, xr, xn, xg⟩ := u
  obtain ⟨ys, yb, ye, yt, yr, yn, yg⟩ := v
  unfold wpX_step wpY_step
  dsimp only
  have n4 : ¬ (4 : Int32) = 0 := by decide
  rcases ww_cs v1 with h | ⟨a, ha, rfl⟩
  · refine xx_auB _ h ?_
    refine br_t rfl ?_
    refine yy_bdB _ _ h ?_
    exact br_f (by decide) ⟨rfl, I⟩
  obtain ⟨n, B, E, T, ok, ax, ay⟩ := I a ha
  rcases pk_ix v2 (n := 32) (by decide) with h | h | ⟨j, hj, rfl⟩
  · refine xx_au a ha ?_
    refine br_f (by decide) ?_
    refine xx_rtB ha ax.1 ok.1.2 _ (Or.inl h) ?_
    refine br_t rfl ?_
    refine yy_bd _ a ha ?_
    refine br_t rfl ?_
    exact br_t h ⟨rfl, I⟩
  · have h31 : ¬ v2 ≤ 31 := by
      intro z
      have z2 : nI 32 ≤ nI 31 := Int32.le_trans h z
      rw [nI_leI (by decide) (by decide)] at z2
      omega
    refine xx_au a ha ?_
    refine br_f (by decide) ?_
    refine xx_rtB ha ax.1 ok.1.2 _ (Or.inr (Or.inl h)) ?_
    refine br_t rfl ?_
    refine yy_bd _ a ha ?_
    refine br_t rfl ?_
    exact br_c (fun _ => ⟨rfl, I⟩) (fun _ => br_f h31 ⟨rfl, I⟩)
  have g0 : ¬ nI j < 0 := nI_pos (by omega)
  have g1 : nI j ≤ 31 := nI_le (b := 31) (by omega) (by decide)
  by_cases hg : j / 4 % 4 < n ∧ j % 4 < n
  · obtain ⟨p1, p2, p3, p4⟩ := ax
    obtain ⟨r1, r2, r3, r4⟩ := ay
    obtain ⟨⟨o1, o2⟩, o3, o4, o5, o6, o7, o8⟩ := ok
    obtain ⟨hp, hq⟩ := hg
    have hw := ww_md_lt v3
    have ej : 32 * a + 16 * (j / 16) + 4 * (j / 4 % 4) + j % 4 = 32 * a + j := by omega
    have x0 : xt (32 * a + j) = nI (T (j / 16) (j / 4 % 4) (j % 4)) := by
      have := p4 (j / 16) (j / 4 % 4) (j % 4) (by omega) hp hq
      rw [ej] at this
      exact this
    have y0 : yt (32 * a + j) = nI (T (j / 16) (j / 4 % 4) (j % 4)) := by
      have := r4 (j / 16) (j / 4 % 4) (j % 4) (by omega) (by omega) (by omega)
      rw [ej] at this
      exact this
    refine xx_au a ha ?_
    refine br_f (by decide) ?_
    refine xx_rt ha p1 o2 j hj hp hq ?_
    refine br_f (by decide) ?_
    refine nm_r (ix_32 a j) ?_
    refine ⟨vp_in_nI (by omega) (by decide), nm_r (ww_rd (32 * a + j) rfl (by omega) x0) ?_⟩
    refine xx_residue v3 ?_
    refine ww_put (32 * a + j) rfl (by omega) (by decide) ?_
    refine yy_bd _ a ha ?_
    refine br_t rfl ?_
    refine br_f g0 ?_
    refine br_t g1 ?_
    refine ⟨n4, n4, ?_⟩
    rw [ww_pY j hj, ww_qY j (by omega)]
    refine yy_bs ha r1 o2 _ hp ?_
    refine br_t rfl ?_
    refine ⟨n4, ?_⟩
    refine yy_bs ha r1 o2 _ hq ?_
    refine br_t rfl ?_
    refine ⟨pk_in (32 * a + j) 96 (by omega) (ix_32 a j), nm_r (ww_rd (32 * a + j) (ix_32 a j) (by omega) y0) ?_⟩
    refine yy_reduced _ v3 ?_
    refine ww_put (32 * a + j) (ix_32 a j) (by omega) (by decide) ?_
    refine ⟨rfl, ?_⟩
    refine ww_mk I ⟨n, B, E, fun c p q => if c = j / 16 ∧ p = j / 4 % 4 ∧ q = j % 4 then ww_md v3 else T c p q, ⟨⟨o1, o2⟩, o3, o4, o5, o6, fun c p q => ?_, fun c p q hpq => ?_⟩, ⟨p1, p2, p3, ww_tu hj o2 p4⟩, ⟨r1, r2, r3, ww_tu hj (by omega) r4⟩⟩ (fun _ _ => rfl) (fun _ _ => rfl) (fun _ _ => rfl) (fun i hi => pk_un (by omega)) (fun _ _ => rfl) (fun _ _ => rfl) (fun _ _ => rfl) (fun i hi => pk_un (by omega))
    · show (if c = j / 16 ∧ p = j / 4 % 4 ∧ q = j % 4 then ww_md v3 else T c p q) < 997
      split
      · exact hw
      · exact o7 c p q
    · show (if c = j / 16 ∧ p = j / 4 % 4 ∧ q = j % 4 then ww_md v3 else T c p q) = 0
      rw [if_neg (by omega)]
      exact o8 c p q hpq
  · have o2 := ok.1.2
    refine xx_au a ha ?_
    refine br_f (by decide) ?_
    refine xx_rtB ha ax.1 o2 _ (Or.inr (Or.inr ⟨j, hj, rfl, hg⟩)) ?_
    refine br_t rfl ?_
    refine yy_bd _ a ha ?_
    refine br_t rfl ?_
    refine br_f g0 ?_
    refine br_t g1 ?_
    refine ⟨n4, n4, ?_⟩
    rw [ww_pY j hj, ww_qY j (by omega)]
    by_cases h1 : j / 4 % 4 < n
    · refine yy_bs ha ay.1 o2 _ h1 ?_
      refine br_t rfl ?_
      refine ⟨n4, ?_⟩
      refine yy_bsB ha ay.1 _ (Or.inr (nI_le (by omega) (by omega))) ?_
      exact br_f (by decide) ⟨rfl, I⟩
    · refine yy_bsB ha ay.1 _ (Or.inr (nI_le (by omega) (by omega))) ?_
      exact br_f (by decide) ⟨rfl, I⟩
