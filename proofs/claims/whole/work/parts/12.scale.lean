/-! scale -/
section
variable {a b n : Nat} {B E : Nat → Nat} {T : Nat → Nat → Nat → Nat} {sz st en tr : Nat → Int32}
theorem xx_copy {post : SX → Prop} (ha : a < 3) (hb : b < 3) (hz : sz b = nI n) (re rn tb : Nat → Int32) (H : ∀ st' en' tr', ww_W (fun j => j / 4 = a) (fun j => st (4 * b + j % 4)) st st' → ww_W (fun j => j / 4 = a) (fun j => en (4 * b + j % 4)) en en' → ww_W (fun j => j / 32 = a) (fun j => tr (32 * b + j % 32)) tr tr' → post (upd sz a (nI n), st', en', tr', re, rn, tb)) : wpX_copyNumbers post (sz, st, en, tr, re, rn, tb) (nI a) (nI b) := by
  have k2 : ∀ st' en', ww_W (fun j => j / 4 = a) (fun j => st (4 * b + j % 4)) st st' → ww_W (fun j => j / 4 = a) (fun j => en (4 * b + j % 4)) en en' → ∀ d i tr', i + d = 32 → ww_W (fun j => j / 32 = a ∧ j % 32 < i) (fun j => tr (32 * b + j % 32)) tr tr' → wX_copyNumbers_69 post (nI a) (nI b) (d + 1) (nI i) (upd sz a (nI n)) st' en' tr' re rn tb := by
    intro st' en' h1 h2 d
    induction d with
    | zero =>
      intro i tr' hi hw
      exact pk_le 32 i (fun _ => H st' en' tr' h1 h2 (ww_Wi hw (fun j => by omega))) (fun h => by omega)
    | succ d ih =>
      intro i tr' hi hw
      refine pk_le 32 i (fun h => by omega) (fun h => ⟨pk_in (32 * b + i) 96 (by omega) (ix_32 b i), ?_⟩)
      refine ww_put (32 * a + i) (ix_32 a i) (by omega) (by decide) (nm_r (nI_1 i) (ih (i + 1) _ (by omega) (ww_W1 hw ?_ (fun j => by omega))))
      rw [ww_rd (32 * b + i) (ix_32 b i) (by omega) ((hw (32 * b + i)).2 (by omega)), show (32 * a + i) % 32 = i by omega]
  have k1 : ∀ d i st' en', i + d = 4 → ww_W (fun j => j / 4 = a ∧ j % 4 < i) (fun j => st (4 * b + j % 4)) st st' → ww_W (fun j => j / 4 = a ∧ j % 4 < i) (fun j => en (4 * b + j % 4)) en en' → wX_copyNumbers_14 post (nI a) (nI b) (d + 1) (nI i) (upd sz a (nI n)) st' en' tr re rn tb := by
    intro d
    induction d with
    | zero =>
      intro i st' en' hi h1 h2
      exact pk_le 4 i (fun _ => ⟨33, k2 st' en' (ww_Wi h1 (fun j => by omega)) (ww_Wi h2 (fun j => by omega)) 32 0 tr (by omega) (ww_W0 (fun j => by omega))⟩) (fun h => by omega)
    | succ d ih =>
      intro i st' en' hi h1 h2
      refine pk_le 4 i (fun h => by omega) (fun h => ?_)
      refine xx_sc b i ?_
      refine xx_sc a i ?_
      have vb : vp_in (nI (4 * b + i)) 12 := vp_in_nI (by omega) (by decide)
      refine ⟨vb, ww_put (4 * a + i) rfl (by omega) (by decide) ⟨vb, ww_put (4 * a + i) rfl (by omega) (by decide) (nm_r (nI_1 i) (ih (i + 1) _ _ (by omega) (ww_W1 h1 ?_ (fun j => by omega)) (ww_W1 h2 ?_ (fun j => by omega))))⟩⟩
      · rw [ww_rd (4 * b + i) rfl (by omega) ((h1 (4 * b + i)).2 (by omega)), show (4 * a + i) % 4 = i by omega]
      · rw [ww_rd (4 * b + i) rfl (by omega) ((h2 (4 * b + i)).2 (by omega)), show (4 * a + i) % 4 = i by omega]
  refine ⟨ww_a3 b hb, ww_put a rfl ha (by decide) ⟨5, ?_⟩⟩
  rw [ww_rd b rfl (by omega) hz]
  exact k1 4 0 st en (by omega) (ww_W0 (fun j => by omega)) (ww_W0 (fun j => by omega))
theorem xx_s31 {post : Int32 → SX → Prop} (ha : a < 3) (hn : n ≤ 4) (hz : sz a = nI n) (f : Nat) (hf : f < 997) (hB : ∀ q, B q < 997) (hs : ∀ q, q < n → st (4 * a + q) = nI (B q)) (re rn tb : Nat → Int32) (H : ∀ st', ww_W (fun j => j / 4 = a ∧ j % 4 < n) (fun j => nI (B (j % 4) * f % 997)) st st' → post 0 (sz, st', en, tr, re, rn, tb)) : ∃ n31, wX_scale_31 post (nI a) (nI f) n31 0 sz st en tr re rn tb := by
  have k1 : ∀ d i st', i + d = n → ww_W (fun j => j / 4 = a ∧ j % 4 < i) (fun j => nI (B (j % 4) * f % 997)) st st' → wX_scale_31 post (nI a) (nI f) (d + 1) (nI i) sz st' en tr re rn tb := by
    intro d
    induction d with
    | zero =>
      intro i st' hi h1
      exact ⟨ww_a3 a ha, pk_le n i (fun _ => H st' (ww_Wi h1 (fun j => by omega))) (fun h => by omega) (hx := ww_rd a rfl (by omega) hz)⟩
    | succ d ih =>
      intro i st' hi h1
      have hb : B i * f ≤ 996 * 996 := Nat.mul_le_mul (Nat.le_of_lt_succ (hB i)) (Nat.le_of_lt_succ hf)
      refine ⟨ww_a3 a ha, pk_le n i (fun h => by omega) (fun h => ?_) (hx := ww_rd a rfl (by omega) hz)⟩
      refine xx_sc a i ⟨vp_in_nI (by omega) (by decide), ?_⟩
      rw [ww_rd (4 * a + i) rfl (by omega) (((h1 (4 * a + i)).2 (by omega)).trans (hs i h)), pk_mul]
      refine xx_resN _ (by omega) ?_
      refine ww_put (4 * a + i) rfl (by omega) (by decide) (nm_r (nI_1 i) (ih (i + 1) _ (by omega) (ww_W1 h1 ?_ (fun j => by omega))))
      rw [show (4 * a + i) % 4 = i by omega]
  exact ⟨n + 1, k1 n 0 st (by omega) (ww_W0 (fun j => by omega))⟩
theorem yy_s40 {post : Int32 → SY → Prop} (ha : a < 3) (hb : b < 3) (f : Nat) (hf : f < 997) (hB : ∀ q, B q < 997) (hs : ∀ q, q < 4 → st (4 * b + q) = nI (B q)) (sz re rn tb : Nat → Int32) (H : ∀ st' en' tr', ww_W (fun j => j / 4 = a) (fun j => nI (B (j % 4) * f % 997)) st st' → ww_W (fun j => j / 4 = a) (fun j => en (4 * b + j % 4)) en en' → ww_W (fun j => j / 32 = a) (fun j => tr (32 * b + j % 32)) tr tr' → post 0 (sz, st', en', tr', re, rn, tb)) : ∃ n40, wY_scale_40 post (nI a) (nI b) (nI f) n40 0 sz st en tr re rn tb := by
  have k2 : ∀ st' en', ww_W (fun j => j / 4 = a) (fun j => nI (B (j % 4) * f % 997)) st st' → ww_W (fun j => j / 4 = a) (fun j => en (4 * b + j % 4)) en en' → ∀ d i tr', i + d = 32 → ww_W (fun j => j / 32 = a ∧ j % 32 < i) (fun j => tr (32 * b + j % 32)) tr tr' → wY_scale_106 post (nI a) (nI b) (d + 1) (nI i) sz st' en' tr' re rn tb := by
    intro st' en' h1 h2 d
    induction d with
    | zero =>
      intro i tr' hi hw
      exact pk_le 32 i (fun _ => H st' en' tr' h1 h2 (ww_Wi hw (fun j => by omega))) (fun h => by omega)
    | succ d ih =>
      intro i tr' hi hw
      refine pk_le 32 i (fun h => by omega) (fun h => ⟨pk_in (32 * b + i) 96 (by omega) (ix_32 b i), ?_⟩)
      refine ww_put (32 * a + i) (ix_32 a i) (by omega) (by decide) (nm_r (nI_1 i) (ih (i + 1) _ (by omega) (ww_W1 hw ?_ (fun j => by omega))))
      rw [ww_rd (32 * b + i) (ix_32 b i) (by omega) ((hw (32 * b + i)).2 (by omega)), show (32 * a + i) % 32 = i by omega]
  have k1 : ∀ d i st' en', i + d = 4 → ww_W (fun j => j / 4 = a ∧ j % 4 < i) (fun j => nI (B (j % 4) * f % 997)) st st' → ww_W (fun j => j / 4 = a ∧ j % 4 < i) (fun j => en (4 * b + j % 4)) en en' → wY_scale_40 post (nI a) (nI b) (nI f) (d + 1) (nI i) sz st' en' tr re rn tb := by
    intro d
    induction d with
    | zero =>
      intro i st' en' hi h1 h2
      exact pk_le 4 i (fun _ => ⟨33, k2 st' en' (ww_Wi h1 (fun j => by omega)) (ww_Wi h2 (fun j => by omega)) 32 0 tr (by omega) (ww_W0 (fun j => by omega))⟩) (fun h => by omega)
    | succ d ih =>
      intro i st' en' hi h1 h2
      have hbd : B i * f ≤ 996 * 996 := Nat.mul_le_mul (Nat.le_of_lt_succ (hB i)) (Nat.le_of_lt_succ hf)
      refine pk_le 4 i (fun h => by omega) (fun h => ?_)
      have vb : vp_in (4 * nI b + nI i) 12 := pk_in (4 * b + i) 12 (by omega) (ix_4 b i)
      refine ⟨vb, ww_ne997, ww_put (4 * a + i) (ix_4 a i) (by omega) (by decide) ⟨vb, ww_put (4 * a + i) (ix_4 a i) (by omega) (by decide) (nm_r (nI_1 i) (ih (i + 1) _ _ (by omega) (ww_W1 h1 ?_ (fun j => by omega)) (ww_W1 h2 ?_ (fun j => by omega))))⟩⟩
      · rw [ww_rd (4 * b + i) (ix_4 b i) (by omega) (((h1 (4 * b + i)).2 (by omega)).trans (hs i h)), pk_mul, ww_rem _ (by omega), show (4 * a + i) % 4 = i by omega]
      · rw [ww_rd (4 * b + i) (ix_4 b i) (by omega) ((h2 (4 * b + i)).2 (by omega)), show (4 * a + i) % 4 = i by omega]
  exact ⟨5, k1 4 0 st en (by omega) (ww_W0 (fun j => by omega)) (ww_W0 (fun j => by omega))⟩
end
theorem i_vc_scale {k : Nat} {u : SX} {v : SY} (I : i_Rel k u v) (hk : k + 5 ≤ 2560) (v1 : Int32) (v2 : Int32) (v3 : Int32) : wpX_scale (fun r u' => wpY_scale (fun r' v' => r' = r ∧ i_Rel (k + 5) u' v') v v1 v2 v3) u v1 v2 v3 := by
  obtain ⟨xs, xb, xe, xt, xr, xn, xg⟩ := u
  obtain ⟨ys, yb, ye, yt, yr, yn, yg⟩ := v
  unfold wpX_scale wpY_scale
  dsimp only
  rcases ww_cs v1 with h | ⟨a, ha, rfl⟩
  · refine xx_auB _ h ?_
    refine br_t rfl ?_
    refine yy_bdB _ _ h ?_
    exact br_f (by decide) ⟨rfl, I⟩
  rcases ww_cs v2 with h | ⟨b, hb, rfl⟩
  · refine xx_au a ha ?_
    refine br_f (by decide) ?_
    refine xx_auB _ h ?_
    refine br_t rfl ?_
    refine yy_bd _ a ha ?_
    refine br_t rfl ?_
    refine yy_bdB _ _ h ?_
    exact br_f (by decide) ⟨rfl, I⟩
  obtain ⟨n, B, E, T, ok, ax, ay⟩ := I b hb
  obtain ⟨p1, p2, p3, p4⟩ := ax
  obtain ⟨r1, r2, r3, r4⟩ := ay
  obtain ⟨⟨o1, o2⟩, o3, o4, o5, o6, o7, o8⟩ := ok
  dsimp only at p1 p2 p3 p4 r1 r2 r3 r4
  have hf := ww_md_lt v3
  refine xx_au a ha ?_
  refine br_f (by decide) ?_
  refine xx_au b hb ?_
  refine br_f (by decide) ?_
  refine xx_copy ha hb p1 _ _ _ (fun st1 en1 tr1 w1 w2 w3 => ?_)
  refine xx_residue v3 ?_
  have c1 : ∀ q, q < n → st1 (4 * a + q) = nI (B q) := by
    intro q hq
    refine ((w1 (4 * a + q)).1 (by omega)).trans ?_
    dsimp only
    rw [show (4 * a + q) % 4 = q by omega]
    exact p2 q hq
  refine xx_s31 ha o2 pk_us (ww_md v3) hf o3 c1 _ _ _ (fun st2 w4 => ?_)
  refine yy_bd _ a ha ?_
  refine br_t rfl ?_
  refine yy_bd _ b hb ?_
  refine br_t rfl ?_
  refine yy_reduced _ v3 ?_
  refine ⟨ww_a3 b hb, ww_put a rfl ha (by decide) ?_⟩
  rw [ww_rd b rfl (by omega) r1]
  refine yy_s40 ha hb (ww_md v3) hf o3 r2 _ _ _ _ (fun st3 en3 tr3 z1 z2 z3 => ⟨rfl, ?_⟩)
  refine ww_mk I ⟨n, fun q => B q * ww_md v3 % 997, E, T, ⟨⟨o1, o2⟩, fun q => Nat.mod_lt _ (by decide), fun q hq => ?_, o5, o6, o7, o8⟩, ⟨pk_us, fun q hq => ?_, fun q hq => ?_, fun c p q hc hp hq => ?_⟩, ⟨pk_us, fun q hq => ?_, fun q hq => ?_, fun c p q hc hp hq => ?_⟩⟩ ww_un (fun j hj => ((w4 j).2 (by omega)).trans ((w1 j).2 hj)) (fun j hj => (w2 j).2 hj) (fun j hj => (w3 j).2 hj) ww_un (fun j hj => (z1 j).2 hj) (fun j hj => (z2 j).2 hj) (fun j hj => (z3 j).2 hj)
  · dsimp only
    rw [o4 q hq, Nat.zero_mul]
  · refine ((w4 (4 * a + q)).1 (by omega)).trans ?_
    dsimp only
    rw [show (4 * a + q) % 4 = q by omega]
  · refine ((w2 (4 * a + q)).1 (by omega)).trans ?_
    dsimp only
    rw [show (4 * a + q) % 4 = q by omega]
    exact p3 q hq
  · refine ((w3 (32 * a + 16 * c + 4 * p + q)).1 (by omega)).trans ?_
    dsimp only
    rw [show 32 * b + (32 * a + 16 * c + 4 * p + q) % 32 = 32 * b + 16 * c + 4 * p + q by omega]
    exact p4 c p q hc hp hq
  · refine ((z1 (4 * a + q)).1 (by omega)).trans ?_
    dsimp only
    rw [show (4 * a + q) % 4 = q by omega]
  · refine ((z2 (4 * a + q)).1 (by omega)).trans ?_
    dsimp only
    rw [show (4 * a + q) % 4 = q by omega]
    exact r3 q hq
  · refine ((z3 (32 * a + 16 * c + 4 * p + q)).1 (by omega)).trans ?_
    dsimp only
    rw [show 32 * b + (32 * a + 16 * c + 4 * p + q) % 32 = 32 * b + 16 * c + 4 * p + q by omega]
    exact r4 c p q hc hp hq
