/-! index equations, stores, reads, residues -/
theorem ix_4 (a q : Nat) : (4 : Int32) * nI a + nI q = nI (4 * a + q) := by
  show nI 4 * nI a + nI q = _
  rw [pk_mul, nI_add]
theorem ix_32 (a q : Nat) : (32 : Int32) * nI a + nI q = nI (32 * a + q) := by
  show nI 32 * nI a + nI q = _
  rw [pk_mul, nI_add]
theorem ix_15 (a q : Nat) : (15 : Int32) * nI a + nI q = nI (15 * a + q) := by
  show nI 15 * nI a + nI q = _
  rw [pk_mul, nI_add]
theorem ix_s (a c p q : Nat) : (32 : Int32) * nI a + 16 * nI c + 4 * nI p + nI q = nI (32 * a + 16 * c + 4 * p + q) := by
  show nI 32 * nI a + nI 16 * nI c + nI 4 * nI p + nI q = _
  rw [pk_mul, pk_mul, pk_mul, nI_add, nI_add, nI_add]
theorem ix_s0 (a p q : Nat) : (32 : Int32) * nI a + 4 * nI p + nI q = nI (32 * a + 4 * p + q) := by
  show nI 32 * nI a + nI 4 * nI p + nI q = _
  rw [pk_mul, pk_mul, nI_add, nI_add]
theorem ix_s1 (a p q : Nat) : (32 : Int32) * nI a + 16 + 4 * nI p + nI q = nI (32 * a + 16 + 4 * p + q) := by
  show nI 32 * nI a + nI 16 + nI 4 * nI p + nI q = _
  rw [pk_mul, pk_mul, nI_add, nI_add, nI_add]
/-- a store -/
theorem ww_put {e : Int32} {N : Nat} {A : Nat → Int32} {x : Int32} {P : (Nat → Int32) → Prop} (j : Nat) (he : e = nI j) (hj : j < N) (hN : N < 2 ^ 31) (h : P (upd A j x)) : vp_in e N ∧ ∀ y, y = upd A e.toNatClampNeg x → P y := by
  subst he
  refine ⟨vp_in_nI hj hN, ?_⟩
  intro y hy
  rw [nI_clamp (by omega)] at hy
  exact hy ▸ h
/-- a read whose value is used -/
theorem ww_get {e : Int32} {N : Nat} {A : Nat → Int32} {P : Int32 → Prop} (j : Nat) (he : e = nI j) (hj : j < N) (hN : N < 2 ^ 31) (v : Int32) (hv : A j = v) (h : P v) : vp_in e N ∧ P (A e.toNatClampNeg) := by
  subst he
  refine ⟨vp_in_nI hj hN, ?_⟩
  rw [nI_clamp (by omega), hv]
  exact h
theorem ww_rd {A : Nat → Int32} {e : Int32} (j : Nat) (he : e = nI j) (hj : j < 2 ^ 31) {v : Int32} (hv : A j = v) : A e.toNatClampNeg = v := by
  subst he
  rw [nI_clamp hj, hv]
theorem ww_a3 (a : Nat) (h : a < 3) : vp_in (nI a) 3 := vp_in_nI h (by decide)
/-- the residue of any int -/
def ww_md (x : Int32) : Nat := (x.toInt % 997).toNat
theorem ww_md_lt (x : Int32) : ww_md x < 997 := by
  unfold ww_md
  omega
theorem ww_md_nI (n : Nat) (h : n < 2 ^ 31) : ww_md (nI n) = n % 997 := by
  unfold ww_md
  rw [nI_toInt h]
  omega
theorem ww_997 : (997 : Int32).toInt = 997 := by decide
theorem ww_remI (x : Int32) : (x - x / 997 * 997).toInt = x.toInt.tmod 997 := by
  rw [irem_eq_mod, Int32.toInt_mod, ww_997]
theorem ww_tm (z : Int) : (0 ≤ z.tmod 997 → z.tmod 997 = z % 997) ∧ (z.tmod 997 < 0 → z.tmod 997 + 997 = z % 997) := by
  by_cases h : 0 ≤ z
  · rw [Int.tmod_eq_emod_of_nonneg h]
    omega
  · have e : z.tmod 997 = -((-z).tmod 997) := by rw [Int.neg_tmod, Int.neg_neg]
    rw [e, Int.tmod_eq_emod_of_nonneg (by omega)]
    omega
theorem ww_res0 (x : Int32) (h : 0 ≤ x - x / 997 * 997) : x - x / 997 * 997 = nI (ww_md x) := by
  apply Int32.toInt_inj.mp
  have e := ww_remI x
  have h0 := Int32.le_iff_toInt_le.mp h
  rw [e] at h0
  have t := (ww_tm x.toInt).1 h0
  have l := ww_md_lt x
  rw [e, nI_toInt (by omega)]
  unfold ww_md
  omega
theorem ww_res1 (x : Int32) (h : ¬ 0 ≤ x - x / 997 * 997) : x - x / 997 * 997 + 997 = nI (ww_md x) := by
  apply Int32.toInt_inj.mp
  have e := ww_remI x
  have h0 : ¬ (0 : Int) ≤ (x - x / 997 * 997).toInt := fun z => h (Int32.le_iff_toInt_le.mpr z)
  rw [e] at h0
  have t := (ww_tm x.toInt).2 (by omega)
  have l := ww_md_lt x
  rw [Int32.toInt_add, e, ww_997, t, nI_toInt (by omega)]
  unfold ww_md
  rw [Int.bmod_eq_of_le (by omega) (by omega)]
  omega
theorem ww_ne997 : ¬ (997 : Int32) = 0 := by decide
theorem xx_residue {post : Int32 → Prop} (x : Int32) (h : post (nI (ww_md x))) : wpX_residue post x := by
  refine ⟨ww_ne997, ?_⟩
  intro y ey
  subst ey
  exact br_c (fun z => by rw [ww_res0 x z]; exact h) (fun z => by rw [ww_res1 x z]; exact h)
theorem yy_reduced {post : Int32 → Prop} (v : SY) (x : Int32) (h : post (nI (ww_md x))) : wpY_reduced post v x := by
  refine ⟨ww_ne997, ?_⟩
  intro y ey
  subst ey
  exact br_c (fun z => by rw [ww_res0 x z]; exact h) (fun z => by rw [ww_res1 x z]; exact h)
theorem ww_rem (n : Nat) (h : n < 2 ^ 31) : nI n - nI n / 997 * 997 = nI (n % 997) := pk_rem (d := 997) h (by decide) (by decide)
theorem xx_resN {post : Int32 → Prop} (n : Nat) (hn : n < 2 ^ 31) (h : post (nI (n % 997))) : wpX_residue post (nI n) :=
  xx_residue _ (by rw [ww_md_nI n hn]; exact h)
/-- good automata -/
theorem xx_auB {post : Int32 → Prop} (x : Int32) (hx : x < 0 ∨ nI 3 ≤ x) (h : post 0) : wpX_isAutomaton post x :=
  br_c (fun _ => h) (fun z => br_c (fun _ => h) (fun z2 => (hx.elim (fun q => z q) (fun q => z2 q)).elim))
theorem xx_au {post : Int32 → Prop} (a : Nat) (ha : a < 3) (h : post 1) : wpX_isAutomaton post (nI a) :=
  br_f (nI_pos (by omega)) (br_f (nI_ge (b := 3) ha (by decide)) h)
theorem yy_bdB {post : Int32 → Prop} (v : SY) (x : Int32) (hx : x < 0 ∨ nI 3 ≤ x) (h : post 1) : wpY_bad post v x :=
  br_c (fun _ => h) (fun z => br_c (fun z2 => (hx.elim (fun q => z q) (fun q => by
    obtain ⟨j, hj, rfl⟩ := nI_of z
    rw [nI_leI (by decide) hj] at q
    have z3 : nI j ≤ nI 2 := z2
    rw [nI_leI hj (by decide)] at z3
    omega)).elim) (fun _ => h))
theorem yy_bd {post : Int32 → Prop} (v : SY) (a : Nat) (ha : a < 3) (h : post 0) : wpY_bad post v (nI a) :=
  br_f (nI_pos (by omega)) (br_t (nI_le (b := 2) (by omega) (by decide)) h)
theorem xx_sc {post : Int32 → Prop} (a q : Nat) (h : post (nI (4 * a + q))) : wpX_stateCell post (nI a) (nI q) := by
  show post _
  rw [ix_4]
  exact h
theorem xx_st {post : Int32 → Prop} (a c p q : Nat) (h : post (nI (32 * a + 16 * c + 4 * p + q))) : wpX_stepCell post (nI a) (nI c) (nI p) (nI q) := by
  show post _
  rw [ix_s]
  exact h
/-- what a row of writes leaves: G where D, the old array elsewhere -/
def ww_W (D : Nat → Prop) (G cur cur' : Nat → Int32) : Prop := ∀ j, (D j → cur' j = G j) ∧ (¬ D j → cur' j = cur j)
theorem ww_W0 {D : Nat → Prop} {G cur : Nat → Int32} (h : ∀ j, ¬ D j) : ww_W D G cur cur := fun j => ⟨fun z => (h j z).elim, fun _ => rfl⟩
theorem ww_W1 {D D' : Nat → Prop} {G st cur : Nat → Int32} {k : Nat} {x : Int32} (h : ww_W D G st cur) (hx : x = G k) (hD : ∀ j, D' j ↔ D j ∨ j = k) : ww_W D' G st (upd cur k x) := by
  intro j
  by_cases e : j = k
  · subst e
    exact ⟨fun _ => pk_us.trans hx, fun z => (z ((hD j).mpr (Or.inr rfl))).elim⟩
  · rw [pk_un e]
    refine ⟨fun z => (h j).1 ?_, fun z => (h j).2 ?_⟩
    · rcases (hD j).mp z with q | q
      · exact q
      · exact (e q).elim
    · exact fun q => z ((hD j).mpr (Or.inl q))
theorem ww_WW {D D1 D2 : Nat → Prop} {G st c1 c2 : Nat → Int32} (h1 : ww_W D1 G st c1) (h2 : ww_W D2 G c1 c2) (hD : ∀ j, D j ↔ D1 j ∨ D2 j) : ww_W D G st c2 := by
  intro j
  refine ⟨fun z => ?_, fun z => ?_⟩
  · by_cases q : D2 j
    · exact (h2 j).1 q
    · rw [(h2 j).2 q]
      rcases (hD j).mp z with w | w
      · exact (h1 j).1 w
      · exact (q w).elim
  · rw [(h2 j).2 (fun w => z ((hD j).mpr (Or.inr w))), (h1 j).2 (fun w => z ((hD j).mpr (Or.inl w)))]
theorem ww_Wi {D D' : Nat → Prop} {G st cur : Nat → Int32} (h : ww_W D G st cur) (hD : ∀ j, D' j ↔ D j) : ww_W D' G st cur :=
  fun j => ⟨fun z => (h j).1 ((hD j).mp z), fun z => (h j).2 (fun q => z ((hD j).mpr q))⟩
