/-! weave -/
/-- the number that weave gives to a step -/
def ww_wv (s c p q : Nat) : Nat := if (p + 2 * q + c + s) % 3 = 0 then 0 else (s * (p + 1) + 3 * q + c * (p + q)) % 997
theorem ww_wv_lt (s c p q : Nat) : ww_wv s c p q < 997 := by
  unfold ww_wv
  split <;> omega
theorem ww_n1 (s c p q : Nat) : nI s * (nI p + 1) + 3 * nI q + nI c * (nI p + nI q) = nI (s * (p + 1) + 3 * q + c * (p + q)) := by
  show nI s * (nI p + 1) + nI 3 * nI q + nI c * (nI p + nI q) = _
  rw [nI_1, nI_add p q, pk_mul, pk_mul, pk_mul, nI_add, nI_add]
theorem ww_n2 (s c p q : Nat) : nI p + 2 * nI q + nI c + nI s = nI (p + 2 * q + c + s) := by
  show nI p + nI 2 * nI q + nI c + nI s = _
  rw [pk_mul, nI_add, nI_add, nI_add]
theorem ww_n3 (m : Nat) (h : m < 2 ^ 31) : nI m - nI m / 3 * 3 = nI (m % 3) := pk_rem (d := 3) h (by decide) (by decide)
theorem ww_n4 (s q : Nat) : (1 : Int32) + nI s * nI q = nI (1 + s * q) := by
  show nI 1 + nI s * nI q = _
  rw [pk_mul, nI_add]
theorem ww_b1 {s p q c : Nat} (hs : s < 997) (hp : p < 4) (hq : q < 4) (hc : c < 2) : s * (p + 1) + 3 * q + c * (p + q) < 10000 := by
  have h1 : s * (p + 1) ≤ 996 * 4 := Nat.mul_le_mul (by omega) (by omega)
  have h2 : c * (p + q) ≤ 1 * 6 := Nat.mul_le_mul (by omega) (by omega)
  omega
theorem ww_b2 {s q : Nat} (hs : s < 997) (hq : q < 4) : 1 + s * q < 10000 := by
  have h1 : s * q ≤ 996 * 3 := Nat.mul_le_mul (by omega) (by omega)
  omega
section
variable {a n s : Nat} {sz st en : Nat → Int32}
theorem xx_ws {post : SX → Prop} (ha : a < 3) (hs : s < 997) (hn : n ≤ 4) (hz : sz a = nI n) (tr re rn tb : Nat → Int32) (c : Nat) (hc : c < 2) (H : ∀ tr', ww_W (fun j => j / 32 = a ∧ j % 32 / 16 = c ∧ j % 16 / 4 < n ∧ j % 4 < n) (fun j => nI (ww_wv s (j % 32 / 16) (j % 16 / 4) (j % 4))) tr tr' → post (sz, st, en, tr', re, rn, tb)) : wpX_weaveSteps post (sz, st, en, tr, re, rn, tb) (nI a) (nI s) (nI c) := by
  have k2 : ∀ (J3 : Int32 → (Nat → Int32) → (Nat → Int32) → (Nat → Int32) → (Nat → Int32) → (Nat → Int32) → (Nat → Int32) → (Nat → Int32) → Prop) (p : Nat), p < n → ∀ tr0, (∀ tr', ww_W (fun j => j / 32 = a ∧ j % 32 / 16 = c ∧ j % 16 / 4 = p ∧ j % 4 < n) (fun j => nI (ww_wv s (j % 32 / 16) (j % 16 / 4) (j % 4))) tr0 tr' → J3 (nI (p + 1)) sz st en tr' re rn tb) → ∀ d i tr', i + d = n → ww_W (fun j => j / 32 = a ∧ j % 32 / 16 = c ∧ j % 16 / 4 = p ∧ j % 4 < i) (fun j => nI (ww_wv s (j % 32 / 16) (j % 16 / 4) (j % 4))) tr0 tr' → wX_weaveSteps_17 post J3 (nI a) (nI s) (nI c) (nI p) (d + 1) (nI i) sz st en tr' re rn tb := by
    intro J3 p hp tr0 HJ d
    induction d with
    | zero =>
      intro i tr' hi hw
      exact ⟨ww_a3 a ha, pk_le n i (fun _ => nm_r (nI_1 p) (HJ tr' (ww_Wi hw (fun j => by omega)))) (fun h => by omega) (hx := ww_rd a rfl (by omega) hz)⟩
    | succ d ih =>
      intro i tr' hi hw
      have b1 := ww_b1 hs (show p < 4 by omega) (show i < 4 by omega) hc
      refine ⟨ww_a3 a ha, pk_le n i (fun h => by omega) (fun h => ?_) (hx := ww_rd a rfl (by omega) hz)⟩
      refine nm_r (ww_n1 s c p i) ⟨by decide, ?_⟩
      have e1 : (32 * a + 16 * c + 4 * p + i) % 32 / 16 = c := by omega
      have e2 : (32 * a + 16 * c + 4 * p + i) % 16 / 4 = p := by omega
      have e3 : (32 * a + 16 * c + 4 * p + i) % 4 = i := by omega
      refine pk_eq ((p + 2 * i + c + s) % 3) 0 (fun z => ?_) (fun z => ?_) (hx := by rw [ww_n2, ww_n3 _ (by omega)])
      · refine xx_st a c p i ?_
        refine br_f (by decide) ?_
        refine ww_put (32 * a + 16 * c + 4 * p + i) rfl (by omega) (by decide) (nm_r (nI_1 i) (ih (i + 1) _ (by omega) (ww_W1 hw ?_ (fun j => by omega))))
        show (0 : Int32) = nI (ww_wv s _ _ _)
        rw [e1, e2, e3]
        unfold ww_wv
        rw [if_pos z]
        rfl
      · refine xx_st a c p i ?_
        refine br_t rfl ?_
        refine xx_resN _ (by omega) ?_
        refine ww_put (32 * a + 16 * c + 4 * p + i) rfl (by omega) (by decide) (nm_r (nI_1 i) (ih (i + 1) _ (by omega) (ww_W1 hw ?_ (fun j => by omega))))
        show _ = nI (ww_wv s _ _ _)
        rw [e1, e2, e3]
        unfold ww_wv
        rw [if_neg z]
  have k1 : ∀ d i tr', i + d = n → ww_W (fun j => j / 32 = a ∧ j % 32 / 16 = c ∧ j % 16 / 4 < i ∧ j % 4 < n) (fun j => nI (ww_wv s (j % 32 / 16) (j % 16 / 4) (j % 4))) tr tr' → wX_weaveSteps_3 post (nI a) (nI s) (nI c) (d + 1) (nI i) sz st en tr' re rn tb := by
    intro d
    induction d with
    | zero =>
      intro i tr' hi hw
      exact ⟨ww_a3 a ha, pk_le n i (fun _ => H tr' (ww_Wi hw (fun j => by omega))) (fun h => by omega) (hx := ww_rd a rfl (by omega) hz)⟩
    | succ d ih =>
      intro i tr' hi hw
      refine ⟨ww_a3 a ha, pk_le n i (fun h => by omega) (fun h => ⟨n + 1, ?_⟩) (hx := ww_rd a rfl (by omega) hz)⟩
      refine k2 _ i h tr' (fun tr2 hw2 => ih (i + 1) tr2 (by omega) (ww_WW hw hw2 (fun j => by omega))) n 0 tr' (by omega) (ww_W0 (fun j => by omega))
  exact ⟨n + 1, k1 n 0 tr (by omega) (ww_W0 (fun j => by omega))⟩
theorem xx_wv {post : Int32 → SX → Prop} (ha : a < 3) (hs : s < 997) (hn : n ≤ 4) (hz : sz a = nI n) (st en tr re rn tb : Nat → Int32) (H : ∀ st' en' tr', ww_W (fun j => j / 4 = a ∧ j % 4 < n) (fun j => nI ((s + j % 4) % 997)) st st' → ww_W (fun j => j / 4 = a ∧ j % 4 < n) (fun j => nI ((1 + s * (j % 4)) % 997)) en en' → ww_W (fun j => j / 32 = a ∧ j % 16 / 4 < n ∧ j % 4 < n) (fun j => nI (ww_wv s (j % 32 / 16) (j % 16 / 4) (j % 4))) tr tr' → post 0 (sz, st', en', tr', re, rn, tb)) : ∃ n25, wX_weave_25 post (nI a) (nI s) n25 0 sz st en tr re rn tb := by
  have k2 : ∀ st' en', ww_W (fun j => j / 4 = a ∧ j % 4 < n) (fun j => nI ((s + j % 4) % 997)) st st' → ww_W (fun j => j / 4 = a ∧ j % 4 < n) (fun j => nI ((1 + s * (j % 4)) % 997)) en en' → ∀ d i tr', i + d = 2 → ww_W (fun j => j / 32 = a ∧ j % 32 / 16 < i ∧ j % 16 / 4 < n ∧ j % 4 < n) (fun j => nI (ww_wv s (j % 32 / 16) (j % 16 / 4) (j % 4))) tr tr' → wX_weave_78 post (nI a) (nI s) (d + 1) (nI i) sz st' en' tr' re rn tb := by
    intro st' en' h1 h2 d
    induction d with
    | zero =>
      intro i tr' hi hw
      exact pk_le 2 i (fun _ => H st' en' tr' h1 h2 (ww_Wi hw (fun j => by omega))) (fun h => by omega)
    | succ d ih =>
      intro i tr' hi hw
      refine pk_le 2 i (fun h => by omega) (fun h => ?_)
      exact xx_ws ha hs hn hz tr' re rn tb i h (fun tr2 hw2 => nm_r (nI_1 i) (ih (i + 1) tr2 (by omega) (ww_WW hw hw2 (fun j => by omega))))
  have k1 : ∀ d i st' en', i + d = n → ww_W (fun j => j / 4 = a ∧ j % 4 < i) (fun j => nI ((s + j % 4) % 997)) st st' → ww_W (fun j => j / 4 = a ∧ j % 4 < i) (fun j => nI ((1 + s * (j % 4)) % 997)) en en' → wX_weave_25 post (nI a) (nI s) (d + 1) (nI i) sz st' en' tr re rn tb := by
    intro d
    induction d with
    | zero =>
      intro i st' en' hi h1 h2
      exact ⟨ww_a3 a ha, pk_le n i (fun _ => ⟨3, k2 st' en' (ww_Wi h1 (fun j => by omega)) (ww_Wi h2 (fun j => by omega)) 2 0 tr (by omega) (ww_W0 (fun j => by omega))⟩) (fun h => by omega) (hx := ww_rd a rfl (by omega) hz)⟩
    | succ d ih =>
      intro i st' en' hi h1 h2
      have b2 := ww_b2 hs (show i < 4 by omega)
      refine ⟨ww_a3 a ha, pk_le n i (fun h => by omega) (fun h => ?_) (hx := ww_rd a rfl (by omega) hz)⟩
      refine xx_sc a i ?_
      rw [nI_add, ww_n4]
      refine xx_resN _ (by omega) ?_
      refine ww_put (4 * a + i) rfl (by omega) (by decide) ?_
      refine xx_resN _ (by omega) ?_
      have e : (4 * a + i) % 4 = i := by omega
      refine ww_put (4 * a + i) rfl (by omega) (by decide) (nm_r (nI_1 i) (ih (i + 1) _ _ (by omega) (ww_W1 h1 ?_ (fun j => by omega)) (ww_W1 h2 ?_ (fun j => by omega))))
      · show _ = nI ((s + (4 * a + i) % 4) % 997)
        rw [e]
      · show _ = nI ((1 + s * ((4 * a + i) % 4)) % 997)
        rw [e]
  exact ⟨n + 1, k1 n 0 st en (by omega) (ww_W0 (fun j => by omega)) (ww_W0 (fun j => by omega))⟩
theorem yy_wv {post : Int32 → SY → Prop} (ha : a < 3) (hs : s < 997) (hn : n ≤ 4) (hz : sz a = nI n) (st en tr re rn tb : Nat → Int32) (H : ∀ st' en' tr', ww_W (fun j => j / 4 = a ∧ j % 4 < n) (fun j => nI ((s + j % 4) % 997)) st st' → ww_W (fun j => j / 4 = a ∧ j % 4 < n) (fun j => nI ((1 + s * (j % 4)) % 997)) en en' → ww_W (fun j => j / 32 = a ∧ j % 16 / 4 < n ∧ j % 4 < n) (fun j => nI (ww_wv s (j % 32 / 16) (j % 16 / 4) (j % 4))) tr tr' → post 0 (sz, st', en', tr', re, rn, tb)) : ∃ n26, wY_weave_26 post (nI a) (nI s) n26 0 sz st en tr re rn tb := by
  have n4 : ¬ (4 : Int32) = 0 := by decide
  have k2 : ∀ (J26 : Int32 → (Nat → Int32) → (Nat → Int32) → (Nat → Int32) → (Nat → Int32) → (Nat → Int32) → (Nat → Int32) → (Nat → Int32) → Prop) (st' en' : Nat → Int32) (p : Nat), p < n → ∀ tr0, (∀ tr', ww_W (fun j => j / 32 = a ∧ j % 16 / 4 = p ∧ j % 4 < n) (fun j => nI (ww_wv s (j % 32 / 16) (j % 16 / 4) (j % 4))) tr0 tr' → J26 (nI (p + 1)) sz st' en' tr' re rn tb) → ∀ d i tr', i + d = 8 → ww_W (fun j => j / 32 = a ∧ j % 16 / 4 = p ∧ j % 4 < n ∧ 4 * (j % 32 / 16) + j % 4 < i) (fun j => nI (ww_wv s (j % 32 / 16) (j % 16 / 4) (j % 4))) tr0 tr' → wY_weave_80 post J26 (nI a) (nI s) (nI p) (d + 1) (nI i) sz st' en' tr' re rn tb := by
    intro J26 st' en' p hp tr0 HJ d
    induction d with
    | zero =>
      intro i tr' hi hw
      exact pk_le 8 i (fun _ => nm_r (nI_1 p) (HJ tr' (ww_Wi hw (fun j => by omega)))) (fun h => by omega)
    | succ d ih =>
      intro i tr' hi hw
      have b1 := ww_b1 hs (show p < 4 by omega) (show i % 4 < 4 by omega) (show i / 4 < 2 by omega)
      refine pk_le 8 i (fun h => by omega) (fun h => ?_)
      refine ⟨n4, nm_r (ww_qY i (by omega)) ⟨n4, nm_r (ww_dY i (by omega)) ⟨ww_a3 a ha, pk_le n (i % 4) (fun h => ?_) (fun h => ?_) (hx := ww_rd a rfl (by omega) hz)⟩⟩⟩
      · exact nm_r (nI_1 i) (ih (i + 1) tr' (by omega) (ww_Wi hw (fun j => by omega)))
      · have e1 : (32 * a + 16 * (i / 4) + 4 * p + i % 4) % 32 / 16 = i / 4 := by omega
        have e2 : (32 * a + 16 * (i / 4) + 4 * p + i % 4) % 16 / 4 = p := by omega
        have e3 : (32 * a + 16 * (i / 4) + 4 * p + i % 4) % 4 = i % 4 := by omega
        refine ⟨ww_ne997, ?_⟩
        rw [ww_n1]
        refine nm_r (ww_rem _ (by omega)) ⟨by decide, ?_⟩
        refine pk_eq ((p + 2 * (i % 4) + i / 4 + s) % 3) 0 (fun z => ?_) (fun z => ?_) (hx := by rw [ww_n2, ww_n3 _ (by omega)])
        · refine ww_put (32 * a + 16 * (i / 4) + 4 * p + i % 4) (ix_s _ _ _ _) (by omega) (by decide) (nm_r (nI_1 i) (ih (i + 1) _ (by omega) (ww_W1 hw ?_ (fun j => by omega))))
          show (0 : Int32) = nI (ww_wv s _ _ _)
          rw [e1, e2, e3]
          unfold ww_wv
          rw [if_pos z]
          rfl
        · refine ww_put (32 * a + 16 * (i / 4) + 4 * p + i % 4) (ix_s _ _ _ _) (by omega) (by decide) (nm_r (nI_1 i) (ih (i + 1) _ (by omega) (ww_W1 hw ?_ (fun j => by omega))))
          show _ = nI (ww_wv s _ _ _)
          rw [e1, e2, e3]
          unfold ww_wv
          rw [if_neg z]
  have k1 : ∀ d i st' en' tr', i + d = n → ww_W (fun j => j / 4 = a ∧ j % 4 < i) (fun j => nI ((s + j % 4) % 997)) st st' → ww_W (fun j => j / 4 = a ∧ j % 4 < i) (fun j => nI ((1 + s * (j % 4)) % 997)) en en' → ww_W (fun j => j / 32 = a ∧ j % 16 / 4 < i ∧ j % 4 < n) (fun j => nI (ww_wv s (j % 32 / 16) (j % 16 / 4) (j % 4))) tr tr' → wY_weave_26 post (nI a) (nI s) (d + 1) (nI i) sz st' en' tr' re rn tb := by
    intro d
    induction d with
    | zero =>
      intro i st' en' tr' hi h1 h2 h3
      exact ⟨ww_a3 a ha, pk_le n i (fun _ => H st' en' tr' (ww_Wi h1 (fun j => by omega)) (ww_Wi h2 (fun j => by omega)) (ww_Wi h3 (fun j => by omega))) (fun h => by omega) (hx := ww_rd a rfl (by omega) hz)⟩
    | succ d ih =>
      intro i st' en' tr' hi h1 h2 h3
      have b2 := ww_b2 hs (show i < 4 by omega)
      refine ⟨ww_a3 a ha, pk_le n i (fun h => by omega) (fun h => pk_le 4 i (fun h => by omega) (fun _ => ⟨ww_ne997, ?_⟩)) (hx := ww_rd a rfl (by omega) hz)⟩
      rw [nI_add, ww_n4, ww_rem _ (by omega), ww_rem _ (by omega)]
      have e : (4 * a + i) % 4 = i := by omega
      refine ww_put (4 * a + i) (ix_4 a i) (by omega) (by decide) ⟨ww_ne997, ww_put (4 * a + i) (ix_4 a i) (by omega) (by decide) ⟨9, ?_⟩⟩
      refine k2 _ _ _ i h tr' (fun tr2 hw2 => ih (i + 1) _ _ tr2 (by omega) (ww_W1 h1 ?_ (fun j => by omega)) (ww_W1 h2 ?_ (fun j => by omega)) (ww_WW h3 hw2 (fun j => by omega))) 8 0 tr' (by omega) (ww_W0 (fun j => by omega))
      · show _ = nI ((s + (4 * a + i) % 4) % 997)
        rw [e]
      · show _ = nI ((1 + s * ((4 * a + i) % 4)) % 997)
        rw [e]
  exact ⟨n + 1, k1 n 0 st en tr (by omega) (ww_W0 (fun j => by omega)) (ww_W0 (fun j => by omega)) (ww_W0 (fun j => by omega))⟩
end
theorem i_vc_weave {k : Nat} {u : SX} {v : SY} (I : i_Rel k u v) (hk : k + 5 ≤ 2560) (v1 : Int32) (v2 : Int32) : wpX_weave (fun r u' => wpY_weave (fun r' v' => r' = r ∧ i_Rel (k + 5) u' v') v v1 v2) u v1 v2 := by
  obtain ⟨xs, xb, xe, xt, xr, xn, xg⟩ := u
  obtain ⟨ys, yb, ye, yt, yr, yn, yg⟩ := v
  unfold wpX_weave wpY_weave
  dsimp only
  rcases ww_cs v1 with h | ⟨a, ha, rfl⟩
  · refine xx_auB _ h ?_
    refine br_t rfl ?_
    refine yy_bdB _ _ h ?_
    exact br_f (by decide) ⟨rfl, I⟩
  rcases pk_ix v2 (n := 997) (by decide) with h | h | ⟨s, hs, rfl⟩
  · refine xx_au a ha ?_
    refine br_f (by decide) ?_
    refine br_t h ?_
    refine yy_bd _ a ha ?_
    refine br_t rfl ?_
    exact br_t h ⟨rfl, I⟩
  · have hn : ¬ v2 ≤ 996 := by
      intro z
      have z2 : nI 997 ≤ nI 996 := Int32.le_trans h z
      rw [nI_leI (by decide) (by decide)] at z2
      omega
    have hm : ¬ v2 < 997 := Int32.not_lt.mpr h
    have h0 : ¬ v2 < 0 := fun z => hm (Int32.lt_trans z (by decide))
    refine xx_au a ha ?_
    refine br_f (by decide) ?_
    refine br_f h0 ?_
    refine br_f hm ?_
    refine yy_bd _ a ha ?_
    refine br_t rfl ?_
    refine br_f h0 ?_
    exact br_f hn ⟨rfl, I⟩
  obtain ⟨n, B, E, T, ok, ax, ay⟩ := I a ha
  obtain ⟨p1, p2, p3, p4⟩ := ax
  obtain ⟨r1, r2, r3, r4⟩ := ay
  obtain ⟨⟨o1, o2⟩, o3, o4, o5, o6, o7, o8⟩ := ok
  have h0 : ¬ nI s < 0 := nI_pos (by omega)
  have hm : nI s < 997 := nI_lt (b := 997) hs (by decide)
  have hn : nI s ≤ 996 := nI_le (b := 996) (by omega) (by decide)
  refine xx_au a ha ?_
  refine br_f (by decide) ?_
  refine br_f h0 ?_
  refine br_t hm ?_
  refine xx_wv ha hs o2 p1 _ _ _ _ _ _ (fun st' en' tr' w1 w2 w3 => ?_)
  refine yy_bd _ a ha ?_
  refine br_t rfl ?_
  refine br_f h0 ?_
  refine br_t hn ?_
  refine yy_wv ha hs o2 r1 _ _ _ _ _ _ (fun st'' en'' tr'' z1 z2 z3 => ⟨rfl, ?_⟩)
  refine ww_mk I ⟨n, fun q => if q < n then (s + q) % 997 else 0, fun q => if q < n then (1 + s * q) % 997 else 0, fun c p q => if p < n ∧ q < n then ww_wv s c p q else 0, ⟨⟨o1, o2⟩, fun q => ?_, fun q hq => ?_, fun q => ?_, fun q hq => ?_, fun c p q => ?_, fun c p q hpq => ?_⟩, ⟨p1, fun q hq => ?_, fun q hq => ?_, fun c p q hc hp hq => ?_⟩, ⟨r1, fun q hq => ?_, fun q hq => ?_, fun c p q hc hp hq => ?_⟩⟩ (fun _ _ => rfl) (fun j hj => (w1 j).2 (by omega)) (fun j hj => (w2 j).2 (by omega)) (fun j hj => (w3 j).2 (by omega)) (fun _ _ => rfl) (fun j hj => (z1 j).2 (by omega)) (fun j hj => (z2 j).2 (by omega)) (fun j hj => (z3 j).2 (by omega))
  · dsimp only; split <;> omega
  · dsimp only; rw [if_neg (by omega)]
  · dsimp only; split <;> omega
  · dsimp only; rw [if_neg (by omega)]
  · dsimp only
    have := ww_wv_lt s c p q
    split <;> omega
  · dsimp only; rw [if_neg (by omega)]
  · refine ((w1 (4 * a + q)).1 (by omega)).trans ?_
    dsimp only
    rw [if_pos hq, show (4 * a + q) % 4 = q by omega]
  · refine ((w2 (4 * a + q)).1 (by omega)).trans ?_
    dsimp only
    rw [if_pos hq, show (4 * a + q) % 4 = q by omega]
  · refine ((w3 (32 * a + 16 * c + 4 * p + q)).1 (by omega)).trans ?_
    dsimp only
    rw [if_pos ⟨hp, hq⟩, show (32 * a + 16 * c + 4 * p + q) % 32 / 16 = c by omega, show (32 * a + 16 * c + 4 * p + q) % 16 / 4 = p by omega, show (32 * a + 16 * c + 4 * p + q) % 4 = q by omega]
  · dsimp only
    by_cases h : q < n
    · rw [if_pos h]
      refine ((z1 (4 * a + q)).1 (by omega)).trans ?_
      dsimp only
      rw [show (4 * a + q) % 4 = q by omega]
    · rw [if_neg h]
      exact ((z1 (4 * a + q)).2 (by omega)).trans ((r2 q hq).trans (by rw [o4 q (by omega)]))
  · dsimp only
    by_cases h : q < n
    · rw [if_pos h]
      refine ((z2 (4 * a + q)).1 (by omega)).trans ?_
      dsimp only
      rw [show (4 * a + q) % 4 = q by omega]
    · rw [if_neg h]
      exact ((z2 (4 * a + q)).2 (by omega)).trans ((r3 q hq).trans (by rw [o6 q (by omega)]))
  · dsimp only
    by_cases h : p < n ∧ q < n
    · rw [if_pos h]
      refine ((z3 (32 * a + 16 * c + 4 * p + q)).1 (by omega)).trans ?_
      dsimp only
      rw [show (32 * a + 16 * c + 4 * p + q) % 32 / 16 = c by omega, show (32 * a + 16 * c + 4 * p + q) % 16 / 4 = p by omega, show (32 * a + 16 * c + 4 * p + q) % 4 = q by omega]
    · rw [if_neg h]
      exact ((z3 (32 * a + 16 * c + 4 * p + q)).2 (by omega)).trans ((r4 c p q hc hp hq).trans (by rw [o8 c p q (by omega)]))
