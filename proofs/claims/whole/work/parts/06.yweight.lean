/-! the reference's weights -/
section
variable {a n : Nat} {B E : Nat → Nat} {T : Nat → Nat → Nat → Nat} {sz st en tr : Nat → Int32}
theorem yy_begin {post : SY → Prop} (ha : a < 3) (ay : ww_AY a n B E T sz st en tr) (re rn tb : Nat → Int32) (H : ∀ re', (∀ q, q < 4 → re' q = nI (B q)) → post (sz, st, en, tr, re', rn, tb)) : wpY_begin post (sz, st, en, tr, re, rn, tb) (nI a) := by
  obtain ⟨p1, p2, p3, p4⟩ := ay
  have key : ∀ d i re, i + d = 4 → (∀ q, q < i → re q = nI (B q)) → wY_begin_2 post (nI a) (d + 1) (nI i) sz st en tr re rn tb := by
    intro d
    induction d with
    | zero =>
      intro i re hi hr
      exact pk_le 4 i (fun _ => H re (fun q hq => hr q (by omega))) (fun h => by omega)
    | succ d ih =>
      intro i re hi hr
      refine pk_le 4 i (fun h => by omega) (fun h => ?_)
      refine ⟨pk_in (4 * a + i) 12 (by omega) (ix_4 a i), ww_put i rfl (by omega) (by decide) (nm_r (nI_1 i) (ih (i + 1) _ (by omega) ?_))⟩
      intro q hq
      by_cases e : q = i
      · subst e
        rw [pk_us, ww_rd (4 * a + q) (ix_4 a q) (by omega) (p2 q (by omega))]
      · rw [pk_un e]
        exact hr q (by omega)
  exact ⟨5, key 4 0 re (by omega) (fun q hq => by omega)⟩
theorem yy_finish {post : Int32 → Prop} (ha : a < 3) (ok : ww_OK n B E T) (ay : ww_AY a n B E T sz st en tr) (re rn tb : Nat → Int32) (v : Nat → Nat) (hv : ∀ q, v q < 997) (hr : ∀ q, q < 4 → re q = nI (v q)) (H : post (nI (ww_fin E v))) : wpY_finish post (sz, st, en, tr, re, rn, tb) (nI a) := by
  obtain ⟨p1, p2, p3, p4⟩ := ay
  obtain ⟨⟨o1, o2⟩, o3, o4, o5, o6, o7, o8⟩ := ok
  have key : ∀ d i, i + d = 4 → wY_finish_4 post (nI a) sz st en tr re rn tb (d + 1) (nI (ww_sm (fun q => v q * E q) i % 997)) (nI i) := by
    intro d
    induction d with
    | zero =>
      intro i hi
      have e : i = 4 := by omega
      subst e
      exact pk_le 4 4 (fun _ => H) (fun h => by omega)
    | succ d ih =>
      intro i hi
      have hb : v i * E i ≤ 996 * 996 := Nat.mul_le_mul (Nat.le_of_lt_succ (hv i)) (Nat.le_of_lt_succ (o5 i))
      refine pk_le 4 i (fun h => by omega) (fun h => ?_)
      refine ⟨vp_in_nI (by omega) (by decide), pk_in (4 * a + i) 12 (by omega) (ix_4 a i), ww_ne997, nm_r ?_ (nm_r (nI_1 i) (ih (i + 1) (by omega)))⟩
      rw [ww_rd i rfl (by omega) (hr i h), ww_rd (4 * a + i) (ix_4 a i) (by omega) (p3 i h), pk_mul, nI_add, ww_rem _ (by omega), ww_acc1]
      rfl
  exact ⟨5, key 4 0 (by omega)⟩
theorem yy_len {post : Int32 → Prop} (u : SY) (c : Nat) (hc : 1 ≤ c) (h : c < 4096) (H : post (nI c.log2)) : wpY_length post u (nI c) := by
  obtain ⟨sz, st, en, tr, re, rn, tb⟩ := u
  have hL := ww_log12 c hc h
  have key : ∀ d i, i + d = 13 → 1 ≤ i → wY_length_4 post (nI c) sz st en tr re rn tb (d + 1) (nI (if c.log2 < i then c.log2 else i - 1)) (nI i) := by
    intro d
    induction d with
    | zero =>
      intro i hi h1
      refine pk_le 13 i (fun _ => ?_) (fun h => by omega)
      rw [if_pos (by omega)]
      exact H
    | succ d ih =>
      intro i hi h1
      refine pk_le 13 i (fun h => by omega) (fun h => ?_)
      have e : nI c >>> (nI i &&& 31) = nI (c / 2 ^ i) := pk_shrN (by omega) _ i (s_l i (by omega))
      have hq : c / 2 ^ i ≤ c := Nat.div_le_self _ _
      have hg := ww_log c i hc
      refine pk_le (c / 2 ^ i) 0 (fun z => nm_r (nI_1 i) ?_) (fun z => nm_r (nI_1 i) ?_) (hx := e)
      · have z2 := hg.mp (Nat.le_zero.mp z)
        have := ih (i + 1) (by omega) (by omega)
        rw [if_pos (by omega)] at this
        rw [if_pos z2]
        exact this
      · have z2 : ¬ c.log2 < i := fun w => by have := hg.mpr w; omega
        have := ih (i + 1) (by omega) (by omega)
        have e2 : (if c.log2 < i + 1 then c.log2 else i + 1 - 1) = i := by split <;> omega
        rw [e2] at this
        exact this
  have := key 12 1 (by omega) (by omega)
  have e2 : (if c.log2 < 1 then c.log2 else 1 - 1) = 0 := by split <;> omega
  rw [e2] at this
  exact ⟨13, this⟩
/-- what the letter asks: 0, 1, or 2 for both -/
def ww_K (T : Nat → Nat → Nat → Nat) (M : Nat → Nat → Nat) (c : Nat) : Prop := (c < 2 ∧ ∀ p q, M p q = T c p q) ∨ (c = 2 ∧ ∀ p q, M p q = T 0 p q + T 1 p q)
theorem yy_g76 {post : SY → Prop} {J2 : Int32 → (Nat → Int32) → (Nat → Int32) → (Nat → Int32) → (Nat → Int32) → (Nat → Int32) → (Nat → Int32) → (Nat → Int32) → Prop} {J13 : Int32 → Int32 → Prop} (re rn tb : Nat → Int32) (v : Nat → Nat) (x1 x2 x3 : Int32) (s p m : Nat) (hp : p < 4) (hm : m ≤ 1992) (hv : v p < 997) (hr : re p = nI (v p)) (H : J13 (nI ((s + v p * m) % 997)) (nI (p + 1))) : wY_go_76 post J2 J13 x1 x2 x3 (nI (s % 997)) (nI p) (nI m) sz st en tr re rn tb := by
  have hb : v p * (m % 997) ≤ 996 * 996 := Nat.mul_le_mul (Nat.le_of_lt_succ hv) (by omega)
  refine ⟨vp_in_nI hp (by decide), ww_ne997, ww_ne997, nm_r ?_ (nm_r (nI_1 p) H)⟩
  rw [ww_rd p rfl (by omega) hr, ww_rem _ (by omega), pk_mul, nI_add, ww_rem _ (by omega), ww_acc]
theorem yy_g13 {post : SY → Prop} {J2 : Int32 → (Nat → Int32) → (Nat → Int32) → (Nat → Int32) → (Nat → Int32) → (Nat → Int32) → (Nat → Int32) → (Nat → Int32) → Prop} (ha : a < 3) (ok : ww_OK n B E T) (ay : ww_AY a n B E T sz st en tr) (re rn tb : Nat → Int32) (v : Nat → Nat) (hv : ∀ q, v q < 997) (hr : ∀ q, q < 4 → re q = nI (v q)) (M : Nat → Nat → Nat) (c : Nat) (hM : ww_K T M c) (q : Nat) (hq : q < 4) (H : J2 (nI (q + 1)) sz st en tr re (upd rn q (nI (ww_go M v q))) tb) : ∀ d i, i + d = 4 → wY_go_13 post J2 (nI a) (nI c) (nI q) sz st en tr re rn tb (d + 1) (nI (ww_sm (fun p => v p * M p q) i % 997)) (nI i) := by
  obtain ⟨p1, p2, p3, p4⟩ := ay
  obtain ⟨⟨o1, o2⟩, o3, o4, o5, o6, o7, o8⟩ := ok
  intro d
  induction d with
  | zero =>
    intro i hi
    have e : i = 4 := by omega
    subst e
    exact pk_le 4 4 (fun _ => ww_put q rfl hq (by decide) (nm_r (nI_1 q) H)) (fun h => by omega)
  | succ d ih =>
    intro i hi
    have h0 := o7 0 i q
    have h1 := o7 1 i q
    have r0 : tr (32 * a + 4 * i + q) = nI (T 0 i q) := p4 0 i q (by omega) (by omega) hq
    have r1 : tr (32 * a + 16 + 4 * i + q) = nI (T 1 i q) := p4 1 i q (by omega) (by omega) hq
    have nx := ih (i + 1) (by omega)
    refine pk_le 4 i (fun h => by omega) (fun h => ?_)
    rcases hM with ⟨hc, hM⟩ | ⟨hc, hM⟩
    · obtain rfl | rfl : c = 0 ∨ c = 1 := by omega
      · refine br_f (by decide) ⟨pk_in (32 * a + 4 * i + q) 96 (by omega) (ix_s0 a i q), nm_r (e' := nI (M i q)) ?_ (br_t (by decide) ?_)⟩
        · rw [ww_rd _ (ix_s0 a i q) (by omega) r0, Int32.zero_add, hM]
        · exact yy_g76 re rn tb v _ _ _ _ i _ (by omega) (by rw [hM]; omega) (hv i) (hr i h) nx
      · refine br_t (by decide) (br_f (by decide) ⟨pk_in (32 * a + 16 + 4 * i + q) 96 (by omega) (ix_s1 a i q), nm_r (e' := nI (M i q)) ?_ ?_⟩)
        · rw [ww_rd _ (ix_s1 a i q) (by omega) r1, Int32.zero_add, hM]
        · exact yy_g76 re rn tb v _ _ _ _ i _ (by omega) (by rw [hM]; omega) (hv i) (hr i h) nx
    · subst hc
      refine br_f (by decide) ⟨pk_in (32 * a + 4 * i + q) 96 (by omega) (ix_s0 a i q), nm_r (e' := nI (T 0 i q)) ?_ (br_f (by decide) ⟨pk_in (32 * a + 16 + 4 * i + q) 96 (by omega) (ix_s1 a i q), nm_r (e' := nI (M i q)) ?_ ?_⟩)⟩
      · rw [ww_rd _ (ix_s0 a i q) (by omega) r0, Int32.zero_add]
      · rw [ww_rd _ (ix_s1 a i q) (by omega) r1, hM, nI_add]
      · exact yy_g76 re rn tb v _ _ _ _ i _ (by omega) (by rw [hM]; omega) (hv i) (hr i h) nx
theorem yy_go {post : SY → Prop} (ha : a < 3) (ok : ww_OK n B E T) (ay : ww_AY a n B E T sz st en tr) (re rn tb : Nat → Int32) (v : Nat → Nat) (hv : ∀ q, v q < 997) (hr : ∀ q, q < 4 → re q = nI (v q)) (M : Nat → Nat → Nat) (c : Nat) (hM : ww_K T M c) (H : ∀ re' rn', (∀ q, q < 4 → re' q = nI (ww_go M v q)) → post (sz, st, en, tr, re', rn', tb)) : wpY_go post (sz, st, en, tr, re, rn, tb) (nI a) (nI c) := by
  have cp : ∀ rn, (∀ q, q < 4 → rn q = nI (ww_go M v q)) → ∀ d i re, i + d = 4 → (∀ q, q < i → re q = nI (ww_go M v q)) → wY_go_121 post (d + 1) (nI i) sz st en tr re rn tb := by
    intro rn hrn d
    induction d with
    | zero =>
      intro i re hi hre
      exact pk_le 4 i (fun _ => H re rn (fun q hq => hre q (by omega))) (fun h => by omega)
    | succ d ih =>
      intro i re hi hre
      refine pk_le 4 i (fun h => by omega) (fun h => ?_)
      refine ⟨vp_in_nI (by omega) (by decide), ww_put i rfl (by omega) (by decide) (nm_r (nI_1 i) (ih (i + 1) _ (by omega) ?_))⟩
      intro q hq
      by_cases e : q = i
      · subst e
        rw [pk_us, ww_rd q rfl (by omega) (hrn q (by omega))]
      · rw [pk_un e]
        exact hre q (by omega)
  have key : ∀ d i rn, i + d = 4 → (∀ q, q < i → rn q = nI (ww_go M v q)) → wY_go_2 post (nI a) (nI c) (d + 1) (nI i) sz st en tr re rn tb := by
    intro d
    induction d with
    | zero =>
      intro i rn hi hrn
      exact pk_le 4 i (fun _ => ⟨5, cp rn (fun q hq => hrn q (by omega)) 4 0 re (by omega) (fun q hq => by omega)⟩) (fun h => by omega)
    | succ d ih =>
      intro i rn hi hrn
      refine pk_le 4 i (fun h => by omega) (fun h => ⟨5, ?_⟩)
      refine yy_g13 ha ok ay re rn tb v hv hr M c hM i h (ih (i + 1) _ (by omega) ?_) 4 0 (by omega)
      intro q hq
      by_cases e : q = i
      · subst e
        rw [pk_us]
      · rw [pk_un e]
        exact hrn q (by omega)
  exact ⟨5, key 4 0 rn (by omega) (fun q hq => by omega)⟩
theorem yy_w13 {post : Int32 → SY → Prop} (ha : a < 3) (ok : ww_OK n B E T) (ay : ww_AY a n B E T sz st en tr) (tb : Nat → Int32) (c : Nat) (hc : c < 4096) : ∀ k, k < 12 → ∀ (v : Nat → Nat) (re rn : Nat → Int32), (∀ q, v q < 997) → (∀ q, q < 4 → re q = nI (v q)) → (∀ re' rn', post (nI (ww_fin E (ww_run T (ww_bits c k) v))) (sz, st, en, tr, re', rn', tb)) → wY_worth_13 post (nI a) (nI c) (k + 1) (nI k - 1) sz st en tr re rn tb := by
  intro k
  induction k with
  | zero =>
    intro _ v re rn hv hr H
    exact br_t ww_neg1 (yy_finish ha ok ay re rn tb v hv hr (H re rn))
  | succ k ih =>
    intro hk v re rn hv hr H
    rw [nI_pred]
    refine br_f (nI_pos (by omega)) ?_
    rw [ww_let c k hc (by omega)]
    refine yy_go ha ok ay re rn tb v hv hr (T (c / 2 ^ k % 2)) _ (Or.inl ⟨by omega, fun _ _ => rfl⟩) ?_
    intro re' rn' h'
    exact nm_r (ww_dn k) (ih (by omega) _ re' rn' (ww_go_lt _ _) h' H)
theorem yy_wo {post : Int32 → SY → Prop} (ha : a < 3) (ok : ww_OK n B E T) (ay : ww_AY a n B E T sz st en tr) (re rn tb : Nat → Int32) (c : Nat) (h1 : 1 ≤ c) (hc : c < 4096) (H : ∀ re' rn', post (nI (ww_wt B E T c)) (sz, st, en, tr, re', rn', tb)) : wpY_worth post (sz, st, en, tr, re, rn, tb) (nI a) (nI c) := by
  refine yy_begin ha ay re rn tb ?_
  intro re' hr
  refine yy_len _ c h1 hc (nm_e ⟨c.log2 + 1, ?_⟩)
  exact yy_w13 ha ok ay tb c hc c.log2 (ww_log12 c h1 hc) B re' rn ok.2.1 hr H
end
