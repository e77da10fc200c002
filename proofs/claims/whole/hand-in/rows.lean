section
theorem pk_us {f : Nat → Int32} {k : Nat} {x : Int32} : upd f k x k = x := if_pos rfl
theorem pk_un {f : Nat → Int32} {k j : Nat} {x : Int32} (h : j ≠ k) : upd f k x j = f j := if_neg h
theorem pk_sub {a b : Nat} (h : b ≤ a) : nI a - nI b = nI (a - b) := by
  obtain ⟨c, rfl⟩ : ∃ c, a = c + b := ⟨a - b, by omega⟩
  rw [← nI_add, Int32.add_sub_cancel, Nat.add_sub_cancel]
theorem pk_m1 (n : Nat) : nI (n + 1) + (-1) = nI n := by
  rw [← nI_1, Int32.add_assoc, show (1 : Int32) + (-1) = 0 from rfl, Int32.add_zero]
theorem pk_mul (a b : Nat) : nI a * nI b = nI (a * b) := (Int32.ofNat_mul a b).symm
theorem pk_div {a d : Nat} (ha : a < 2 ^ 31) (h0 : 0 < d) (hd : d < 2 ^ 31) : nI a / nI d = nI (a / d) := by
  apply Int32.toInt_inj.mp
  rw [lg_idiv_nonneg (by rw [nI_toInt ha]; omega) (by rw [nI_toInt hd]; omega), nI_toInt ha, nI_toInt hd, nI_toInt (Nat.lt_of_le_of_lt (Nat.div_le_self a d) ha)]
  first | rfl | exact (Int.natCast_ediv _ _).symm
theorem pk_rem {a d : Nat} (ha : a < 2 ^ 31) (h0 : 0 < d) (hd : d < 2 ^ 31) : nI a - nI a / nI d * nI d = nI (a % d) := by
  rw [pk_div ha h0 hd, pk_mul, pk_sub (Nat.div_mul_le_self a d)]
  exact congrArg nI (by have := Nat.div_add_mod' a d; omega)
theorem pk_sub_toInt {a b : Nat} (ha : a < 2 ^ 30) (hb : b < 2 ^ 30) : (nI a - nI b).toInt = (a : Int) - b := by
  rw [Int32.toInt_sub, nI_toInt (by omega), nI_toInt (by omega)]
  exact Int.bmod_eq_of_le (by omega) (by omega)
theorem pk_sneg {a b : Nat} (hb : b < 2 ^ 30) (h : a < b) : nI a - nI b < 0 := by
  rw [Int32.lt_iff_toInt_lt, pk_sub_toInt (by omega) hb, show (0 : Int32).toInt = 0 from by decide]
  omega
theorem pk_ix (x : Int32) {n : Nat} (hn : n < 2 ^ 31) : x < 0 ∨ nI n ≤ x ∨ ∃ j : Nat, j < n ∧ x = nI j := by
  by_cases h : x < 0
  · exact Or.inl h
  · obtain ⟨j, hj, rfl⟩ := nI_of h
    by_cases h2 : j < n
    · exact Or.inr (Or.inr ⟨j, h2, rfl⟩)
    · exact Or.inr (Or.inl (nI_le (by omega) hj))
theorem pk_le {x y : Int32} {A B : Prop} (a b : Nat) (f : a ≤ b → A) (g : b < a → B) (hx : x = nI a := by rfl) (hy : y = nI b := by rfl) (ha : a < 2 ^ 31 := by omega) (hb : b < 2 ^ 31 := by omega) : (x ≤ y → A) ∧ (¬ x ≤ y → B) := by
  subst hx hy
  rw [nI_leI ha hb]
  exact ⟨f, fun z => g (by omega)⟩
theorem pk_lt {x y : Int32} {A B : Prop} (a b : Nat) (f : a < b → A) (g : b ≤ a → B) (hx : x = nI a := by rfl) (hy : y = nI b := by rfl) (ha : a < 2 ^ 31 := by omega) (hb : b < 2 ^ 31 := by omega) : (x < y → A) ∧ (¬ x < y → B) := by
  subst hx hy
  rw [nI_ltI ha hb]
  exact ⟨f, fun z => g (by omega)⟩
theorem pk_eq {x y : Int32} {A B : Prop} (a b : Nat) (f : a = b → A) (g : a ≠ b → B) (hx : x = nI a := by rfl) (hy : y = nI b := by rfl) (ha : a < 2 ^ 31 := by omega) (hb : b < 2 ^ 31 := by omega) : (x = y → A) ∧ (¬ x = y → B) := by
  subst hx hy
  rw [nI_eq ha hb]
  exact ⟨f, g⟩
theorem pk_in {x : Int32} (n N : Nat) (h : n < N) (hx : x = nI n := by rfl) (hN : N < 2 ^ 31 := by omega) : vp_in x N := by
  subst hx
  exact vp_in_nI h hN
theorem pk_cl {x : Int32} (n : Nat) (hx : x = nI n := by rfl) (h : n < 2 ^ 31 := by omega) : x.toNatClampNeg = n := by
  subst hx
  exact nI_clamp h
theorem pk_tn {n : Nat} (h : n < 2 ^ 32) : (nI n).toBitVec.toNat = n := Nat.mod_eq_of_lt h
theorem pk_and (x : Int32) {m : Int32} (k : Nat) (hm : m.toBitVec.toNat = 2 ^ k - 1) : x &&& m = nI (x.toBitVec.toNat % 2 ^ k) := by
  apply Int32.toBitVec_inj.mp
  apply BitVec.eq_of_toNat_eq
  rw [Int32.toBitVec_and, BitVec.toNat_and, hm, Nat.and_two_pow_sub_one_eq_mod]
  show _ = (BitVec.ofNat 32 _).toNat
  rw [BitVec.toNat_ofNat]
  exact (Nat.mod_eq_of_lt (Nat.lt_of_le_of_lt (Nat.mod_le _ _) x.toBitVec.isLt)).symm
theorem pk_andN {n : Nat} (h : n < 2 ^ 32) {m : Int32} (k : Nat) (hm : m.toBitVec.toNat = 2 ^ k - 1) : nI n &&& m = nI (n % 2 ^ k) := by
  rw [pk_and _ k hm, pk_tn h]
theorem pk_shl (a s : Int32) (k : Nat) (hs : (s.toBitVec.smod 32).toNat = k) : (a <<< s).toBitVec.toNat = a.toBitVec.toNat * 2 ^ k % 2 ^ 32 := by
  show (a.toBitVec <<< (s.toBitVec.smod 32).toNat).toNat = _
  rw [hs, BitVec.toNat_shiftLeft, Nat.shiftLeft_eq]
theorem pk_shlN {n : Nat} (s : Int32) (k : Nat) (hs : (s.toBitVec.smod 32).toNat = k) (h : n * 2 ^ k < 2 ^ 32) : nI n <<< s = nI (n * 2 ^ k) := by
  apply Int32.toBitVec_inj.mp
  apply BitVec.eq_of_toNat_eq
  have hn : n < 2 ^ 32 := Nat.lt_of_le_of_lt (Nat.le_mul_of_pos_right n (Nat.two_pow_pos k)) h
  rw [pk_shl _ _ k hs, pk_tn hn, pk_tn h, Nat.mod_eq_of_lt h]
theorem pk_shr (a s : Int32) (k : Nat) (hs : (s.toBitVec.smod 32).toNat = k) : (a >>> s).toInt = a.toInt >>> k := by
  show (a.toBitVec.sshiftRight (s.toBitVec.smod 32).toNat).toInt = _
  rw [hs, BitVec.toInt_sshiftRight]
  rfl
theorem pk_shrN {n : Nat} (h : n < 2 ^ 31) (s : Int32) (k : Nat) (hs : (s.toBitVec.smod 32).toNat = k) : nI n >>> s = nI (n / 2 ^ k) := by
  apply Int32.toInt_inj.mp
  have h2 : n / 2 ^ k ≤ n := Nat.div_le_self _ _
  rw [pk_shr _ _ k hs, nI_toInt h, nI_toInt (by omega), Int.shiftRight_eq_div_pow]
  rfl
theorem s_l : ∀ n, n < 32 → ((nI n &&& 31).toBitVec.smod 32).toNat = n := by decide +kernel
end
section
/-! index equations, stores, reads, residues -/
theorem ix_4 (a q : Nat) : (4 : Int32) * nI a + nI q = nI (4 * a + q) := by
  show nI 4 * nI a + nI q = _
  rw [pk_mul, nI_add]
theorem ix_32 (a q : Nat) : (32 : Int32) * nI a + nI q = nI (32 * a + q) := by
  show nI 32 * nI a + nI q = _
  rw [pk_mul, nI_add]
theorem ix_15 (a q : Nat) : (15 : Int32) * nI a + nI q = nI (15 * a + q) := by
  show nI 15 * nI a + nI q = _
  rw [pk_mul, nI_add]
theorem ix_s (a c p q : Nat) : (32 : Int32) * nI a + 16 * nI c + 4 * nI p + nI q = nI (32 * a + 16 * c + 4 * p + q) := by
  show nI 32 * nI a + nI 16 * nI c + nI 4 * nI p + nI q = _
  rw [pk_mul, pk_mul, pk_mul, nI_add, nI_add, nI_add]
theorem ix_s0 (a p q : Nat) : (32 : Int32) * nI a + 4 * nI p + nI q = nI (32 * a + 4 * p + q) := by
  show nI 32 * nI a + nI 4 * nI p + nI q = _
  rw [pk_mul, pk_mul, nI_add, nI_add]
theorem ix_s1 (a p q : Nat) : (32 : Int32) * nI a + 16 + 4 * nI p + nI q = nI (32 * a + 16 + 4 * p + q) := by
  show nI 32 * nI a + nI 16 + nI 4 * nI p + nI q = _
  rw [pk_mul, pk_mul, nI_add, nI_add, nI_add]
/-- a store -/
theorem ww_put {e : Int32} {N : Nat} {A : Nat → Int32} {x : Int32} {P : (Nat → Int32) → Prop} (j : Nat) (he : e = nI j) (hj : j < N) (hN : N < 2 ^ 31) (h : P (upd A j x)) : vp_in e N ∧ ∀ y, y = upd A e.toNatClampNeg x → P y := by
  subst he
  refine ⟨vp_in_nI hj hN, ?_⟩
  intro y hy
  rw [nI_clamp (by omega)] at hy
  exact hy ▸ h
/-- a read whose value is used -/
theorem ww_get {e : Int32} {N : Nat} {A : Nat → Int32} {P : Int32 → Prop} (j : Nat) (he : e = nI j) (hj : j < N) (hN : N < 2 ^ 31) (v : Int32) (hv : A j = v) (h : P v) : vp_in e N ∧ P (A e.toNatClampNeg) := by
  subst he
  refine ⟨vp_in_nI hj hN, ?_⟩
  rw [nI_clamp (by omega), hv]
  exact h
theorem ww_rd {A : Nat → Int32} {e : Int32} (j : Nat) (he : e = nI j) (hj : j < 2 ^ 31) {v : Int32} (hv : A j = v) : A e.toNatClampNeg = v := by
  subst he
  rw [nI_clamp hj, hv]
theorem ww_a3 (a : Nat) (h : a < 3) : vp_in (nI a) 3 := vp_in_nI h (by decide)
/-- the residue of any int -/
def ww_md (x : Int32) : Nat := (x.toInt % 997).toNat
theorem ww_md_lt (x : Int32) : ww_md x < 997 := by
  unfold ww_md
  omega
theorem ww_md_nI (n : Nat) (h : n < 2 ^ 31) : ww_md (nI n) = n % 997 := by
  unfold ww_md
  rw [nI_toInt h]
  omega
theorem ww_997 : (997 : Int32).toInt = 997 := by decide
theorem ww_remI (x : Int32) : (x - x / 997 * 997).toInt = x.toInt.tmod 997 := by
  rw [irem_eq_mod, Int32.toInt_mod, ww_997]
theorem ww_tm (z : Int) : (0 ≤ z.tmod 997 → z.tmod 997 = z % 997) ∧ (z.tmod 997 < 0 → z.tmod 997 + 997 = z % 997) := by
  by_cases h : 0 ≤ z
  · rw [Int.tmod_eq_emod_of_nonneg h]
    omega
  · have e : z.tmod 997 = -((-z).tmod 997) := by rw [Int.neg_tmod, Int.neg_neg]
    rw [e, Int.tmod_eq_emod_of_nonneg (by omega)]
    omega
theorem ww_res0 (x : Int32) (h : 0 ≤ x - x / 997 * 997) : x - x / 997 * 997 = nI (ww_md x) := by
  apply Int32.toInt_inj.mp
  have e := ww_remI x
  have h0 := Int32.le_iff_toInt_le.mp h
  rw [e] at h0
  have t := (ww_tm x.toInt).1 h0
  have l := ww_md_lt x
  rw [e, nI_toInt (by omega)]
  unfold ww_md
  omega
theorem ww_res1 (x : Int32) (h : ¬ 0 ≤ x - x / 997 * 997) : x - x / 997 * 997 + 997 = nI (ww_md x) := by
  apply Int32.toInt_inj.mp
  have e := ww_remI x
  have h0 : ¬ (0 : Int) ≤ (x - x / 997 * 997).toInt := fun z => h (Int32.le_iff_toInt_le.mpr z)
  rw [e] at h0
  have t := (ww_tm x.toInt).2 (by omega)
  have l := ww_md_lt x
  rw [Int32.toInt_add, e, ww_997, t, nI_toInt (by omega)]
  unfold ww_md
  rw [Int.bmod_eq_of_le (by omega) (by omega)]
  omega
theorem ww_ne997 : ¬ (997 : Int32) = 0 := by decide
theorem xx_residue {post : Int32 → Prop} (x : Int32) (h : post (nI (ww_md x))) : wpX_residue post x := by
  refine ⟨ww_ne997, ?_⟩
  intro y ey
  subst ey
  exact br_c (fun z => by rw [ww_res0 x z]; exact h) (fun z => by rw [ww_res1 x z]; exact h)
theorem yy_reduced {post : Int32 → Prop} (v : SY) (x : Int32) (h : post (nI (ww_md x))) : wpY_reduced post v x := by
  refine ⟨ww_ne997, ?_⟩
  intro y ey
  subst ey
  exact br_c (fun z => by rw [ww_res0 x z]; exact h) (fun z => by rw [ww_res1 x z]; exact h)
theorem ww_rem (n : Nat) (h : n < 2 ^ 31) : nI n - nI n / 997 * 997 = nI (n % 997) := pk_rem (d := 997) h (by decide) (by decide)
theorem xx_resN {post : Int32 → Prop} (n : Nat) (hn : n < 2 ^ 31) (h : post (nI (n % 997))) : wpX_residue post (nI n) :=
  xx_residue _ (by rw [ww_md_nI n hn]; exact h)
/-- good automata -/
theorem xx_auB {post : Int32 → Prop} (x : Int32) (hx : x < 0 ∨ nI 3 ≤ x) (h : post 0) : wpX_isAutomaton post x :=
  br_c (fun _ => h) (fun z => br_c (fun _ => h) (fun z2 => (hx.elim (fun q => z q) (fun q => z2 q)).elim))
theorem xx_au {post : Int32 → Prop} (a : Nat) (ha : a < 3) (h : post 1) : wpX_isAutomaton post (nI a) :=
  br_f (nI_pos (by omega)) (br_f (nI_ge (b := 3) ha (by decide)) h)
theorem yy_bdB {post : Int32 → Prop} (v : SY) (x : Int32) (hx : x < 0 ∨ nI 3 ≤ x) (h : post 1) : wpY_bad post v x :=
  br_c (fun _ => h) (fun z => br_c (fun z2 => (hx.elim (fun q => z q) (fun q => by
    obtain ⟨j, hj, rfl⟩ := nI_of z
    rw [nI_leI (by decide) hj] at q
    have z3 : nI j ≤ nI 2 := z2
    rw [nI_leI hj (by decide)] at z3
    omega)).elim) (fun _ => h))
theorem yy_bd {post : Int32 → Prop} (v : SY) (a : Nat) (ha : a < 3) (h : post 0) : wpY_bad post v (nI a) :=
  br_f (nI_pos (by omega)) (br_t (nI_le (b := 2) (by omega) (by decide)) h)
theorem xx_sc {post : Int32 → Prop} (a q : Nat) (h : post (nI (4 * a + q))) : wpX_stateCell post (nI a) (nI q) := by
  show post _
  rw [ix_4]
  exact h
theorem xx_st {post : Int32 → Prop} (a c p q : Nat) (h : post (nI (32 * a + 16 * c + 4 * p + q))) : wpX_stepCell post (nI a) (nI c) (nI p) (nI q) := by
  show post _
  rw [ix_s]
  exact h
/-- what a row of writes leaves: G where D, the old array elsewhere -/
def ww_W (D : Nat → Prop) (G cur cur' : Nat → Int32) : Prop := ∀ j, (D j → cur' j = G j) ∧ (¬ D j → cur' j = cur j)
theorem ww_W0 {D : Nat → Prop} {G cur : Nat → Int32} (h : ∀ j, ¬ D j) : ww_W D G cur cur := fun j => ⟨fun z => (h j z).elim, fun _ => rfl⟩
theorem ww_W1 {D D' : Nat → Prop} {G st cur : Nat → Int32} {k : Nat} {x : Int32} (h : ww_W D G st cur) (hx : x = G k) (hD : ∀ j, D' j ↔ D j ∨ j = k) : ww_W D' G st (upd cur k x) := by
  intro j
  by_cases e : j = k
  · subst e
    exact ⟨fun _ => pk_us.trans hx, fun z => (z ((hD j).mpr (Or.inr rfl))).elim⟩
  · rw [pk_un e]
    refine ⟨fun z => (h j).1 ?_, fun z => (h j).2 ?_⟩
    · rcases (hD j).mp z with q | q
      · exact q
      · exact (e q).elim
    · exact fun q => z ((hD j).mpr (Or.inl q))
theorem ww_WW {D D1 D2 : Nat → Prop} {G st c1 c2 : Nat → Int32} (h1 : ww_W D1 G st c1) (h2 : ww_W D2 G c1 c2) (hD : ∀ j, D j ↔ D1 j ∨ D2 j) : ww_W D G st c2 := by
  intro j
  refine ⟨fun z => ?_, fun z => ?_⟩
  · by_cases q : D2 j
    · exact (h2 j).1 q
    · rw [(h2 j).2 q]
      rcases (hD j).mp z with w | w
      · exact (h1 j).1 w
      · exact (q w).elim
  · rw [(h2 j).2 (fun w => z ((hD j).mpr (Or.inr w))), (h1 j).2 (fun w => z ((hD j).mpr (Or.inl w)))]
theorem ww_Wi {D D' : Nat → Prop} {G st cur : Nat → Int32} (h : ww_W D G st cur) (hD : ∀ j, D' j ↔ D j) : ww_W D' G st cur :=
  fun j => ⟨fun z => (h j).1 ((hD j).mp z), fun z => (h j).2 (fun q => z ((hD j).mpr q))⟩
end
section
/-! the pictures of one automaton, and the relation -/
def ww_OK (n : Nat) (B E : Nat → Nat) (T : Nat → Nat → Nat → Nat) : Prop :=
  (1 ≤ n ∧ n ≤ 4) ∧ (∀ q, B q < 997) ∧ (∀ q, n ≤ q → B q = 0) ∧ (∀ q, E q < 997) ∧ (∀ q, n ≤ q → E q = 0) ∧ (∀ c p q, T c p q < 997) ∧ (∀ c p q, n ≤ p ∨ n ≤ q → T c p q = 0)
def ww_AX (a n : Nat) (B E : Nat → Nat) (T : Nat → Nat → Nat → Nat) (sz st en tr : Nat → Int32) : Prop :=
  sz a = nI n ∧ (∀ q, q < n → st (4 * a + q) = nI (B q)) ∧ (∀ q, q < n → en (4 * a + q) = nI (E q)) ∧ (∀ c p q, c < 2 → p < n → q < n → tr (32 * a + 16 * c + 4 * p + q) = nI (T c p q))
def ww_AY (a n : Nat) (B E : Nat → Nat) (T : Nat → Nat → Nat → Nat) (sz st en tr : Nat → Int32) : Prop :=
  sz a = nI n ∧ (∀ q, q < 4 → st (4 * a + q) = nI (B q)) ∧ (∀ q, q < 4 → en (4 * a + q) = nI (E q)) ∧ (∀ c p q, c < 2 → p < 4 → q < 4 → tr (32 * a + 16 * c + 4 * p + q) = nI (T c p q))
def ww_P (a : Nat) (xs xb xe xt ys yb ye yt : Nat → Int32) : Prop :=
  ∃ (n : Nat) (B E : Nat → Nat) (T : Nat → Nat → Nat → Nat), ww_OK n B E T ∧ ww_AX a n B E T xs xb xe xt ∧ ww_AY a n B E T ys yb ye yt
def ww_R (xs xb xe xt ys yb ye yt : Nat → Int32) : Prop := ∀ a, a < 3 → ww_P a xs xb xe xt ys yb ye yt
/-- the relation: each automaton of both sides has one picture; the reference holds 0 beyond the size -/
def i_Rel (_k : Nat) (u : SX) (v : SY) : Prop := ww_R u.1 u.2.1 u.2.2.1 u.2.2.2.1 v.1 v.2.1 v.2.2.1 v.2.2.2.1
theorem i_up {k : Nat} {u : SX} {v : SY} (h : i_Rel k u v) : i_Rel (k + 5) u v := h
/-- an automaton whose cells are as they were -/
theorem ww_fr {a n : Nat} {B E : Nat → Nat} {T : Nat → Nat → Nat → Nat} {sz st en tr sz' st' en' tr' : Nat → Int32} (h : ww_AX a n B E T sz st en tr) (hn : n ≤ 4) (h1 : sz' a = sz a) (h2 : ∀ j, j / 4 = a → st' j = st j) (h3 : ∀ j, j / 4 = a → en' j = en j) (h4 : ∀ j, j / 32 = a → tr' j = tr j) : ww_AX a n B E T sz' st' en' tr' := by
  obtain ⟨p1, p2, p3, p4⟩ := h
  refine ⟨h1.trans p1, fun q hq => ?_, fun q hq => ?_, fun c p q hc hp hq => ?_⟩
  · rw [h2 _ (by omega)]; exact p2 q hq
  · rw [h3 _ (by omega)]; exact p3 q hq
  · rw [h4 _ (by omega)]; exact p4 c p q hc hp hq
theorem ww_frY {a n : Nat} {B E : Nat → Nat} {T : Nat → Nat → Nat → Nat} {sz st en tr sz' st' en' tr' : Nat → Int32} (h : ww_AY a n B E T sz st en tr) (h1 : sz' a = sz a) (h2 : ∀ j, j / 4 = a → st' j = st j) (h3 : ∀ j, j / 4 = a → en' j = en j) (h4 : ∀ j, j / 32 = a → tr' j = tr j) : ww_AY a n B E T sz' st' en' tr' := by
  obtain ⟨p1, p2, p3, p4⟩ := h
  refine ⟨h1.trans p1, fun q hq => ?_, fun q hq => ?_, fun c p q hc hp hq => ?_⟩
  · rw [h2 _ (by omega)]; exact p2 q hq
  · rw [h3 _ (by omega)]; exact p3 q hq
  · rw [h4 _ (by omega)]; exact p4 c p q hc hp hq
theorem ww_Pf {a : Nat} {xs xb xe xt ys yb ye yt xs' xb' xe' xt' ys' yb' ye' yt' : Nat → Int32} (h : ww_P a xs xb xe xt ys yb ye yt)
    (h1 : xs' a = xs a) (h2 : ∀ j, j / 4 = a → xb' j = xb j) (h3 : ∀ j, j / 4 = a → xe' j = xe j) (h4 : ∀ j, j / 32 = a → xt' j = xt j)
    (k1 : ys' a = ys a) (k2 : ∀ j, j / 4 = a → yb' j = yb j) (k3 : ∀ j, j / 4 = a → ye' j = ye j) (k4 : ∀ j, j / 32 = a → yt' j = yt j) : ww_P a xs' xb' xe' xt' ys' yb' ye' yt' := by
  obtain ⟨n, B, E, T, ok, ax, ay⟩ := h
  exact ⟨n, B, E, T, ok, ww_fr ax ok.1.2 h1 h2 h3 h4, ww_frY ay k1 k2 k3 k4⟩
theorem i_vc0 : wpX_init (fun u => wpY_init (fun v => i_Rel 0 u v)) := by
  have i0 : vp_in (0 : Int32) 3 := vp_in_iff.mpr (by decide)
  have i1 : vp_in (0 + 1 : Int32) 3 := vp_in_iff.mpr (by decide)
  have i2 : vp_in (0 + 1 + 1 : Int32) 3 := vp_in_iff.mpr (by decide)
  refine ⟨4, br_f (by decide) ⟨i0, nm_e (nm_e (br_f (by decide) ⟨i1, nm_e (nm_e (br_f (by decide) ⟨i2, nm_e (nm_e (br_t (by decide) ?_))⟩))⟩))⟩⟩
  refine ⟨4, br_f (by decide) ⟨i0, nm_e (nm_e (br_f (by decide) ⟨i1, nm_e (nm_e (br_f (by decide) ⟨i2, nm_e (nm_e (br_t (by decide) ?_))⟩))⟩))⟩⟩
  intro a ha
  refine ⟨1, fun _ => 0, fun _ => 0, fun _ _ _ => 0, ⟨by decide, by simp, by simp, by simp, by simp, by simp, by simp⟩, ⟨?_, fun q _ => rfl, fun q _ => rfl, fun c p q _ _ _ => rfl⟩, ⟨?_, fun q _ => rfl, fun q _ => rfl, fun c p q _ _ _ => rfl⟩⟩
  · obtain rfl | rfl | rfl : a = 0 ∨ a = 1 ∨ a = 2 := by omega
    all_goals rfl
  · obtain rfl | rfl | rfl : a = 0 ∨ a = 1 ∨ a = 2 := by omega
    all_goals rfl
end
section
/-! weights, on naturals -/
def ww_sm (f : Nat → Nat) : Nat → Nat
  | 0 => 0
  | k + 1 => ww_sm f k + f k
def ww_go (M : Nat → Nat → Nat) (v : Nat → Nat) : Nat → Nat := fun q => ww_sm (fun p => v p * M p q) 4 % 997
def ww_fin (E : Nat → Nat) (v : Nat → Nat) : Nat := ww_sm (fun q => v q * E q) 4 % 997
def ww_run (T : Nat → Nat → Nat → Nat) : List Nat → (Nat → Nat) → (Nat → Nat)
  | [], v => v
  | c :: w, v => ww_run T w (ww_go (T c) v)
def ww_bits (c : Nat) : Nat → List Nat
  | 0 => []
  | k + 1 => (c / 2 ^ k % 2) :: ww_bits c k
def ww_wt (B E : Nat → Nat) (T : Nat → Nat → Nat → Nat) (c : Nat) : Nat := ww_fin E (ww_run T (ww_bits c c.log2) B)
theorem ww_sm_le {f : Nat → Nat} {K : Nat} (h : ∀ p, f p ≤ K) : ∀ k, ww_sm f k ≤ k * K
  | 0 => by simp [ww_sm]
  | k + 1 => by
    have h1 := ww_sm_le h k
    have h2 := h k
    rw [ww_sm, Nat.add_mul]
    omega
theorem ww_sm_z {f : Nat → Nat} {n : Nat} (h : ∀ p, n ≤ p → f p = 0) : ∀ d, ww_sm f (n + d) = ww_sm f n
  | 0 => rfl
  | d + 1 => by
    have h1 := ww_sm_z h d
    show ww_sm f (n + d) + f (n + d) = _
    rw [h1, h _ (by omega)]
    rfl
theorem ww_sm_4 {f : Nat → Nat} {n : Nat} (hn : n ≤ 4) (h : ∀ p, n ≤ p → f p = 0) : ww_sm f n = ww_sm f 4 := by
  have := ww_sm_z h (4 - n)
  rw [show n + (4 - n) = 4 by omega] at this
  exact this.symm
theorem ww_sm_add (f g : Nat → Nat) : ∀ k, ww_sm f k + ww_sm g k = ww_sm (fun p => f p + g p) k
  | 0 => rfl
  | k + 1 => by
    have h := ww_sm_add f g k
    simp only [ww_sm]
    omega
theorem ww_sm_e {f g : Nat → Nat} {k : Nat} (h : ∀ p, p < k → f p = g p) : ww_sm f k = ww_sm g k := by
  induction k with
  | zero => rfl
  | succ k ih =>
    simp only [ww_sm]
    rw [ih (fun p hp => h p (by omega)), h k (by omega)]
theorem ww_mul_le {a b x y : Nat} (ha : a ≤ x) (hb : b ≤ y) : a * b ≤ x * y := Nat.mul_le_mul ha hb
theorem ww_go_lt (M : Nat → Nat → Nat) (v : Nat → Nat) (q : Nat) : ww_go M v q < 997 := Nat.mod_lt _ (by decide)
theorem ww_fin_lt (E v : Nat → Nat) : ww_fin E v < 997 := Nat.mod_lt _ (by decide)
theorem ww_wt_lt (B E : Nat → Nat) (T : Nat → Nat → Nat → Nat) (c : Nat) : ww_wt B E T c < 997 := ww_fin_lt _ _
theorem ww_acc (s x m : Nat) : (s % 997 + x * (m % 997)) % 997 = (s + x * m) % 997 := by
  rw [Nat.add_mod (s % 997), Nat.mod_mod, Nat.mul_mod, Nat.mod_mod, ← Nat.mul_mod, ← Nat.add_mod]
theorem ww_acc1 (s x : Nat) : (s % 997 + x) % 997 = (s + x) % 997 := by omega
theorem ww_log (c i : Nat) (hc : 1 ≤ c) : c / 2 ^ i = 0 ↔ c.log2 < i := by
  rw [Nat.log2_lt (by omega), Nat.div_eq_zero_iff_lt (Nat.two_pow_pos i)]
theorem ww_log12 (c : Nat) (hc : 1 ≤ c) (h : c < 4096) : c.log2 < 12 := (Nat.log2_lt (by omega)).mpr h
end
section
/-! the component's weights -/
section
variable {a n : Nat} {B E : Nat → Nat} {T : Nat → Nat → Nat → Nat} {sz st en tr : Nat → Int32}
theorem xx_rs {post : SX → Prop} (ha : a < 3) (hn : n ≤ 4) (ax : ww_AX a n B E T sz st en tr) (re rn tb : Nat → Int32) (H : ∀ re', (∀ q, q < n → re' q = nI (B q)) → post (sz, st, en, tr, re', rn, tb)) : wpX_reachStarts post (sz, st, en, tr, re, rn, tb) (nI a) := by
  obtain ⟨p1, p2, p3, p4⟩ := ax
  have key : ∀ d i re, i + d = n → (∀ q, q < i → re q = nI (B q)) → wX_reachStarts_2 post (nI a) (d + 1) (nI i) sz st en tr re rn tb := by
    intro d
    induction d with
    | zero =>
      intro i re hi hr
      exact ⟨ww_a3 a ha, pk_le n i (fun _ => H re (fun q hq => hr q (by omega))) (fun h => by omega) (hx := ww_rd a rfl (by omega) p1)⟩
    | succ d ih =>
      intro i re hi hr
      refine ⟨ww_a3 a ha, pk_le n i (fun h => by omega) (fun h => ?_) (hx := ww_rd a rfl (by omega) p1)⟩
      refine xx_sc a i ⟨vp_in_nI (by omega) (by decide), ww_put i rfl (by omega) (by decide) (nm_r (nI_1 i) (ih (i + 1) _ (by omega) ?_))⟩
      intro q hq
      by_cases e : q = i
      · subst e
        rw [pk_us, ww_rd (4 * a + q) rfl (by omega) (p2 q (by omega))]
      · rw [pk_un e]
        exact hr q (by omega)
  exact ⟨n + 1, key n 0 re (by omega) (fun q hq => by omega)⟩
theorem xx_wr {post : Int32 → Prop} (ha : a < 3) (ok : ww_OK n B E T) (ax : ww_AX a n B E T sz st en tr) (re rn tb : Nat → Int32) (v : Nat → Nat) (hv : ∀ q, v q < 997) (hr : ∀ q, q < n → re q = nI (v q)) (H : post (nI (ww_fin E v))) : wpX_weightReached post (sz, st, en, tr, re, rn, tb) (nI a) := by
  obtain ⟨p1, p2, p3, p4⟩ := ax
  obtain ⟨⟨o1, o2⟩, o3, o4, o5, o6, o7, o8⟩ := ok
  have hb : ∀ k, ww_sm (fun q => v q * E q) k ≤ k * (996 * 996) := ww_sm_le (fun q => Nat.mul_le_mul (Nat.le_of_lt_succ (hv q)) (Nat.le_of_lt_succ (o5 q)))
  have key : ∀ d i, i + d = n → wX_weightReached_4 post (nI a) sz st en tr re rn tb (d + 1) (nI (ww_sm (fun q => v q * E q) i)) (nI i) := by
    intro d
    induction d with
    | zero =>
      intro i hi
      have hbi := hb i
      refine ⟨ww_a3 a ha, pk_le n i (fun _ => ?_) (fun h => by omega) (hx := ww_rd a rfl (by omega) p1)⟩
      refine xx_resN _ (by omega) ?_
      have e : i = n := by omega
      subst e
      rw [ww_sm_4 o2 (fun p hp => by rw [o6 p hp]; rfl)]
      exact H
    | succ d ih =>
      intro i hi
      refine ⟨ww_a3 a ha, pk_le n i (fun h => by omega) (fun h => ?_) (hx := ww_rd a rfl (by omega) p1)⟩
      refine ⟨vp_in_nI (by omega) (by decide), xx_sc a i ⟨vp_in_nI (by omega) (by decide), nm_r ?_ (nm_r (nI_1 i) (ih (i + 1) (by omega)))⟩⟩
      rw [ww_rd i rfl (by omega) (hr i h), ww_rd (4 * a + i) rfl (by omega) (p3 i h), pk_mul, nI_add]
      rfl
  exact ⟨n + 1, key n 0 (by omega)⟩
/-- the inner sum of reachOn: one letter -/
theorem xx_r29 {post : SX → Prop} {J3 : Int32 → (Nat → Int32) → (Nat → Int32) → (Nat → Int32) → (Nat → Int32) → (Nat → Int32) → (Nat → Int32) → (Nat → Int32) → Prop} {J20 : Int32 → Int32 → Prop} (ha : a < 3) (hn : n ≤ 4) (ax : ww_AX a n B E T sz st en tr) (re rn tb : Nat → Int32) (v : Nat → Nat) (hr : ∀ q, q < n → re q = nI (v q)) (x2 x3 : Int32) (q c s : Nat) (hq : q < n) (hc : c < 2) (H : J20 (nI (s + ww_sm (fun p => v p * T c p q) n)) (nI (c + 1))) : ∀ d i, i + d = n → wX_reachOn_29 post J3 J20 (nI a) x2 x3 (nI q) (nI c) sz st en tr re rn tb (d + 1) (nI (s + ww_sm (fun p => v p * T c p q) i)) (nI i) := by
  obtain ⟨p1, p2, p3, p4⟩ := ax
  intro d
  induction d with
  | zero =>
    intro i hi
    refine ⟨ww_a3 a ha, pk_le n i (fun _ => nm_r (nI_1 c) ?_) (fun h => by omega) (hx := ww_rd a rfl (by omega) p1)⟩
    have e : i = n := by omega
    subst e
    exact H
  | succ d ih =>
    intro i hi
    refine ⟨ww_a3 a ha, pk_le n i (fun h => by omega) (fun h => ?_) (hx := ww_rd a rfl (by omega) p1)⟩
    refine ⟨vp_in_nI (by omega) (by decide), xx_st a c i q ⟨vp_in_nI (by omega) (by decide), nm_r ?_ (nm_r (nI_1 i) (ih (i + 1) (by omega)))⟩⟩
    rw [ww_rd i rfl (by omega) (hr i h), ww_rd (32 * a + 16 * c + 4 * i + q) rfl (by omega) (p4 c i q hc h hq), pk_mul, nI_add, Nat.add_assoc]
    rfl
/-- what the letters ask: c alone, or both -/
def ww_L (T : Nat → Nat → Nat → Nat) (M : Nat → Nat → Nat) (lo hi : Nat) : Prop := (lo < 2 ∧ hi = lo ∧ ∀ p q, M p q = T lo p q) ∨ (lo = 0 ∧ hi = 1 ∧ ∀ p q, M p q = T 0 p q + T 1 p q)
theorem ww_L_le {M : Nat → Nat → Nat} {lo hi : Nat} (h : ww_L T M lo hi) (hT : ∀ c p q, T c p q < 997) (p q : Nat) : M p q ≤ 1992 := by
  rcases h with ⟨_, _, h⟩ | ⟨_, _, h⟩
  · rw [h]; have := hT lo p q; omega
  · rw [h]; have := hT 0 p q; have := hT 1 p q; omega
theorem ww_L_z {M : Nat → Nat → Nat} {lo hi : Nat} (h : ww_L T M lo hi) (hT : ∀ c p q, n ≤ p ∨ n ≤ q → T c p q = 0) (p q : Nat) (hp : n ≤ p) : M p q = 0 := by
  rcases h with ⟨_, _, h⟩ | ⟨_, _, h⟩
  · rw [h, hT _ _ _ (Or.inl hp)]
  · rw [h, hT _ _ _ (Or.inl hp), hT _ _ _ (Or.inl hp)]
theorem xx_r20 {post : SX → Prop} {J3 : Int32 → (Nat → Int32) → (Nat → Int32) → (Nat → Int32) → (Nat → Int32) → (Nat → Int32) → (Nat → Int32) → (Nat → Int32) → Prop} (ha : a < 3) (ok : ww_OK n B E T) (ax : ww_AX a n B E T sz st en tr) (re rn tb : Nat → Int32) (v : Nat → Nat) (hv : ∀ q, v q < 997) (hr : ∀ q, q < n → re q = nI (v q)) (M : Nat → Nat → Nat) (lo hi : Nat) (hM : ww_L T M lo hi) (q : Nat) (hq : q < n) (H : J3 (nI (q + 1)) sz st en tr re (upd rn q (nI (ww_go M v q))) tb) : ∃ n20, wX_reachOn_20 post J3 (nI a) (nI lo) (nI hi) (nI q) sz st en tr re rn tb n20 0 (nI lo) := by
  obtain ⟨⟨o1, o2⟩, o3, o4, o5, o6, o7, o8⟩ := ok
  have hML := ww_L_le hM o7
  have hMz := ww_L_z hM o8
  have hb : ww_sm (fun p => v p * M p q) 4 ≤ 4 * (996 * 1992) := ww_sm_le (fun p => Nat.mul_le_mul (Nat.le_of_lt_succ (hv p)) (hML p q)) 4
  have h4 : ww_sm (fun p => v p * M p q) n = ww_sm (fun p => v p * M p q) 4 := ww_sm_4 o2 (fun p hp => by rw [hMz p q hp]; rfl)
  have hend : ∀ s i, s = ww_sm (fun p => v p * M p q) 4 → hi < i → i < 5 → wX_reachOn_20 post J3 (nI a) (nI lo) (nI hi) (nI q) sz st en tr re rn tb 1 (nI s) (nI i) := by
    intro s i hs h1 h2
    subst hs
    refine br_t (nI_lt h1 (by omega)) (xx_resN _ (by omega) (ww_put q rfl (by omega) (by decide) (nm_r (nI_1 q) H)))
  rcases hM with ⟨hl, e, hM⟩ | ⟨e1, e2, hM⟩
  · subst e
    refine ⟨2, br_f (nI_nlt (Nat.le_refl _) (by omega)) ⟨n + 1, ?_⟩⟩
    have := xx_r29 (post := post) (J3 := J3) (J20 := wX_reachOn_20 post J3 (nI a) (nI hi) (nI hi) (nI q) sz st en tr re rn tb 1) ha o2 ax re rn tb v hr (nI hi) (nI hi) q hi 0 hq hl (by
      refine hend _ _ ?_ (by omega) (by omega)
      rw [← h4, Nat.zero_add]
      exact ww_sm_e (fun p _ => by rw [hM])) n 0 (by omega)
    exact this
  · subst e1 e2
    refine ⟨3, br_f (nI_nlt (by omega) (by omega)) ⟨n + 1, ?_⟩⟩
    have h0 := xx_r29 (post := post) (J3 := J3) (J20 := wX_reachOn_20 post J3 (nI a) (nI 0) (nI 1) (nI q) sz st en tr re rn tb 2) ha o2 ax re rn tb v hr (nI 0) (nI 1) q 0 0 hq (by omega) (by
      refine br_f (nI_nlt (by omega) (by omega)) ⟨n + 1, ?_⟩
      have h1 := xx_r29 (post := post) (J3 := J3) (J20 := wX_reachOn_20 post J3 (nI a) (nI 0) (nI 1) (nI q) sz st en tr re rn tb 1) ha o2 ax re rn tb v hr (nI 0) (nI 1) q 1 (0 + ww_sm (fun p => v p * T 0 p q) n) hq (by omega) (by
        refine hend _ _ ?_ (by omega) (by omega)
        rw [← h4, Nat.zero_add, ww_sm_add]
        exact ww_sm_e (fun p _ => by rw [hM, Nat.mul_add])) n 0 (by omega)
      exact h1) n 0 (by omega)
    exact h0
theorem xx_ro {post : SX → Prop} (ha : a < 3) (ok : ww_OK n B E T) (ax : ww_AX a n B E T sz st en tr) (re rn tb : Nat → Int32) (v : Nat → Nat) (hv : ∀ q, v q < 997) (hr : ∀ q, q < n → re q = nI (v q)) (M : Nat → Nat → Nat) (lo hi : Nat) (hM : ww_L T M lo hi) (H : ∀ re' rn', (∀ q, q < n → re' q = nI (ww_go M v q)) → post (sz, st, en, tr, re', rn', tb)) : wpX_reachOn post (sz, st, en, tr, re, rn, tb) (nI a) (nI lo) (nI hi) := by
  have p1 := ax.1
  have o2 := ok.1.2
  have cp : ∀ rn, (∀ q, q < n → rn q = nI (ww_go M v q)) → ∀ d i re, i + d = n → (∀ q, q < i → re q = nI (ww_go M v q)) → wX_reachOn_101 post (nI a) (d + 1) (nI i) sz st en tr re rn tb := by
    intro rn hrn d
    induction d with
    | zero =>
      intro i re hi hre
      exact ⟨ww_a3 a ha, pk_le n i (fun _ => H re rn (fun q hq => hre q (by omega))) (fun h => by omega) (hx := ww_rd a rfl (by omega) p1)⟩
    | succ d ih =>
      intro i re hi hre
      refine ⟨ww_a3 a ha, pk_le n i (fun h => by omega) (fun h => ?_) (hx := ww_rd a rfl (by omega) p1)⟩
      refine ⟨vp_in_nI (by omega) (by decide), ww_put i rfl (by omega) (by decide) (nm_r (nI_1 i) (ih (i + 1) _ (by omega) ?_))⟩
      intro q hq
      by_cases e : q = i
      · subst e
        rw [pk_us, ww_rd q rfl (by omega) (hrn q (by omega))]
      · rw [pk_un e]
        exact hre q (by omega)
  have key : ∀ d i rn, i + d = n → (∀ q, q < i → rn q = nI (ww_go M v q)) → wX_reachOn_3 post (nI a) (nI lo) (nI hi) (d + 1) (nI i) sz st en tr re rn tb := by
    intro d
    induction d with
    | zero =>
      intro i rn hi hrn
      exact ⟨ww_a3 a ha, pk_le n i (fun _ => ⟨n + 1, cp rn (fun q hq => hrn q (by omega)) n 0 re (by omega) (fun q hq => by omega)⟩) (fun h => by omega) (hx := ww_rd a rfl (by omega) p1)⟩
    | succ d ih =>
      intro i rn hi hrn
      refine ⟨ww_a3 a ha, pk_le n i (fun h => by omega) (fun h => ?_) (hx := ww_rd a rfl (by omega) p1)⟩
      refine xx_r20 ha ok ax re rn tb v hv hr M lo _ hM i h (ih (i + 1) _ (by omega) ?_)
      intro q hq
      by_cases e : q = i
      · subst e
        rw [pk_us]
      · rw [pk_un e]
        exact hrn q (by omega)
  exact ⟨n + 1, key n 0 rn (by omega) (fun q hq => by omega)⟩
theorem xx_len {post : Int32 → Prop} (c : Nat) (hc : 1 ≤ c) (h : c < 4096) (H : post (nI c.log2)) : wpX_lengthOf post (nI c) := by
  have hL := ww_log12 c hc h
  have key : ∀ d i, i + d = 12 → 1 ≤ i → wX_lengthOf_4 post (nI c) (d + 1) (nI (if c.log2 < i then c.log2 else i - 1)) (nI i) := by
    intro d
    induction d with
    | zero =>
      intro i hi h1
      refine pk_lt 11 i (fun _ => ?_) (fun h => by omega)
      rw [if_pos (by omega)]
      exact H
    | succ d ih =>
      intro i hi h1
      refine pk_lt 11 i (fun h => by omega) (fun h => ?_)
      have e : nI c >>> (nI i &&& 31) = nI (c / 2 ^ i) := pk_shrN (by omega) _ i (s_l i (by omega))
      have hq : c / 2 ^ i ≤ c := Nat.div_le_self _ _
      have hg := ww_log c i hc
      refine pk_eq (c / 2 ^ i) 0 (fun z => nm_r (nI_1 i) ?_) (fun z => nm_r (nI_1 i) ?_) (hx := e)
      · have z2 := hg.mp z
        have := ih (i + 1) (by omega) (by omega)
        rw [if_pos (by omega)] at this
        rw [if_pos z2]
        exact this
      · have z2 : ¬ c.log2 < i := fun w => z (hg.mpr w)
        have := ih (i + 1) (by omega) (by omega)
        have e2 : (if c.log2 < i + 1 then c.log2 else i + 1 - 1) = i := by split <;> omega
        rw [e2] at this
        exact this
  have := key 11 1 (by omega) (by omega)
  have e2 : (if c.log2 < 1 then c.log2 else 1 - 1) = 0 := by split <;> omega
  rw [e2] at this
  exact ⟨12, this⟩
theorem ww_let (c k : Nat) (hc : c < 4096) (hk : k < 12) : (nI c >>> (nI k &&& 31)) &&& 1 = nI (c / 2 ^ k % 2) := by
  have hq : c / 2 ^ k ≤ c := Nat.div_le_self _ _
  rw [pk_shrN (by omega) _ k (s_l k (by omega)), pk_andN (by omega) 1 (by decide)]
theorem ww_neg1 : (nI 0 - 1 : Int32) < 0 := by decide
theorem ww_dn (k : Nat) : nI k + (-1) = nI k - 1 := (Int32.sub_eq_add_neg _ _).symm
theorem xx_w12 {post : Int32 → SX → Prop} (ha : a < 3) (ok : ww_OK n B E T) (ax : ww_AX a n B E T sz st en tr) (tb : Nat → Int32) (c : Nat) (hc : c < 4096) : ∀ k, k < 12 → ∀ (v : Nat → Nat) (re rn : Nat → Int32), (∀ q, v q < 997) → (∀ q, q < n → re q = nI (v q)) → (∀ re' rn', post (nI (ww_fin E (ww_run T (ww_bits c k) v))) (sz, st, en, tr, re', rn', tb)) → wX_weightOf_12 post (nI a) (nI c) (k + 1) (nI k - 1) sz st en tr re rn tb := by
  intro k
  induction k with
  | zero =>
    intro _ v re rn hv hr H
    exact br_t ww_neg1 (xx_wr ha ok ax re rn tb v hv hr (H re rn))
  | succ k ih =>
    intro hk v re rn hv hr H
    rw [nI_pred]
    refine br_f (nI_pos (by omega)) (nm_r (ww_let c k hc (by omega)) ?_)
    refine xx_ro ha ok ax re rn tb v hv hr (T (c / 2 ^ k % 2)) _ _ (Or.inl ⟨by omega, rfl, fun _ _ => rfl⟩) ?_
    intro re' rn' h'
    exact nm_r (ww_dn k) (ih (by omega) _ re' rn' (ww_go_lt _ _) h' H)
theorem xx_wo {post : Int32 → SX → Prop} (ha : a < 3) (ok : ww_OK n B E T) (ax : ww_AX a n B E T sz st en tr) (re rn tb : Nat → Int32) (c : Nat) (h1 : 1 ≤ c) (hc : c < 4096) (H : ∀ re' rn', post (nI (ww_wt B E T c)) (sz, st, en, tr, re', rn', tb)) : wpX_weightOf post (sz, st, en, tr, re, rn, tb) (nI a) (nI c) := by
  refine xx_rs ha ok.1.2 ax re rn tb ?_
  intro re' hr
  refine xx_len c h1 hc (nm_e ⟨c.log2 + 1, ?_⟩)
  exact xx_w12 ha ok ax tb c hc c.log2 (ww_log12 c h1 hc) B re' rn ok.2.1 hr H
end
end
section
/-! the reference's weights -/
section
variable {a n : Nat} {B E : Nat → Nat} {T : Nat → Nat → Nat → Nat} {sz st en tr : Nat → Int32}
theorem yy_begin {post : SY → Prop} (ha : a < 3) (ay : ww_AY a n B E T sz st en tr) (re rn tb : Nat → Int32) (H : ∀ re', (∀ q, q < 4 → re' q = nI (B q)) → post (sz, st, en, tr, re', rn, tb)) : wpY_begin post (sz, st, en, tr, re, rn, tb) (nI a) := by
  obtain ⟨p1, p2, p3, p4⟩ := ay
  have key : ∀ d i re, i + d = 4 → (∀ q, q < i → re q = nI (B q)) → wY_begin_2 post (nI a) (d + 1) (nI i) sz st en tr re rn tb := by
    intro d
    induction d with
    | zero =>
      intro i re hi hr
      exact pk_le 4 i (fun _ => H re (fun q hq => hr q (by omega))) (fun h => by omega)
    | succ d ih =>
      intro i re hi hr
      refine pk_le 4 i (fun h => by omega) (fun h => ?_)
      refine ⟨pk_in (4 * a + i) 12 (by omega) (ix_4 a i), ww_put i rfl (by omega) (by decide) (nm_r (nI_1 i) (ih (i + 1) _ (by omega) ?_))⟩
      intro q hq
      by_cases e : q = i
      · subst e
        rw [pk_us, ww_rd (4 * a + q) (ix_4 a q) (by omega) (p2 q (by omega))]
      · rw [pk_un e]
        exact hr q (by omega)
  exact ⟨5, key 4 0 re (by omega) (fun q hq => by omega)⟩
theorem yy_finish {post : Int32 → Prop} (ha : a < 3) (ok : ww_OK n B E T) (ay : ww_AY a n B E T sz st en tr) (re rn tb : Nat → Int32) (v : Nat → Nat) (hv : ∀ q, v q < 997) (hr : ∀ q, q < 4 → re q = nI (v q)) (H : post (nI (ww_fin E v))) : wpY_finish post (sz, st, en, tr, re, rn, tb) (nI a) := by
  obtain ⟨p1, p2, p3, p4⟩ := ay
  obtain ⟨⟨o1, o2⟩, o3, o4, o5, o6, o7, o8⟩ := ok
  have key : ∀ d i, i + d = 4 → wY_finish_4 post (nI a) sz st en tr re rn tb (d + 1) (nI (ww_sm (fun q => v q * E q) i % 997)) (nI i) := by
    intro d
    induction d with
    | zero =>
      intro i hi
      have e : i = 4 := by omega
      subst e
      exact pk_le 4 4 (fun _ => H) (fun h => by omega)
    | succ d ih =>
      intro i hi
      have hb : v i * E i ≤ 996 * 996 := Nat.mul_le_mul (Nat.le_of_lt_succ (hv i)) (Nat.le_of_lt_succ (o5 i))
      refine pk_le 4 i (fun h => by omega) (fun h => ?_)
      refine ⟨vp_in_nI (by omega) (by decide), pk_in (4 * a + i) 12 (by omega) (ix_4 a i), ww_ne997, nm_r ?_ (nm_r (nI_1 i) (ih (i + 1) (by omega)))⟩
      rw [ww_rd i rfl (by omega) (hr i h), ww_rd (4 * a + i) (ix_4 a i) (by omega) (p3 i h), pk_mul, nI_add, ww_rem _ (by omega), ww_acc1]
      rfl
  exact ⟨5, key 4 0 (by omega)⟩
theorem yy_len {post : Int32 → Prop} (u : SY) (c : Nat) (hc : 1 ≤ c) (h : c < 4096) (H : post (nI c.log2)) : wpY_length post u (nI c) := by
  obtain ⟨sz, st, en, tr, re, rn, tb⟩ := u
  have hL := ww_log12 c hc h
  have key : ∀ d i, i + d = 13 → 1 ≤ i → wY_length_4 post (nI c) sz st en tr re rn tb (d + 1) (nI (if c.log2 < i then c.log2 else i - 1)) (nI i) := by
    intro d
    induction d with
    | zero =>
      intro i hi h1
      refine pk_le 13 i (fun _ => ?_) (fun h => by omega)
      rw [if_pos (by omega)]
      exact H
    | succ d ih =>
      intro i hi h1
      refine pk_le 13 i (fun h => by omega) (fun h => ?_)
      have e : nI c >>> (nI i &&& 31) = nI (c / 2 ^ i) := pk_shrN (by omega) _ i (s_l i (by omega))
      have hq : c / 2 ^ i ≤ c := Nat.div_le_self _ _
      have hg := ww_log c i hc
      refine pk_le (c / 2 ^ i) 0 (fun z => nm_r (nI_1 i) ?_) (fun z => nm_r (nI_1 i) ?_) (hx := e)
      · have z2 := hg.mp (Nat.le_zero.mp z)
        have := ih (i + 1) (by omega) (by omega)
        rw [if_pos (by omega)] at this
        rw [if_pos z2]
        exact this
      · have z2 : ¬ c.log2 < i := fun w => by have := hg.mpr w; omega
        have := ih (i + 1) (by omega) (by omega)
        have e2 : (if c.log2 < i + 1 then c.log2 else i + 1 - 1) = i := by split <;> omega
        rw [e2] at this
        exact this
  have := key 12 1 (by omega) (by omega)
  have e2 : (if c.log2 < 1 then c.log2 else 1 - 1) = 0 := by split <;> omega
  rw [e2] at this
  exact ⟨13, this⟩
/-- what the letter asks: 0, 1, or 2 for both -/
def ww_K (T : Nat → Nat → Nat → Nat) (M : Nat → Nat → Nat) (c : Nat) : Prop := (c < 2 ∧ ∀ p q, M p q = T c p q) ∨ (c = 2 ∧ ∀ p q, M p q = T 0 p q + T 1 p q)
theorem yy_g76 {post : SY → Prop} {J2 : Int32 → (Nat → Int32) → (Nat → Int32) → (Nat → Int32) → (Nat → Int32) → (Nat → Int32) → (Nat → Int32) → (Nat → Int32) → Prop} {J13 : Int32 → Int32 → Prop} (re rn tb : Nat → Int32) (v : Nat → Nat) (x1 x2 x3 : Int32) (s p m : Nat) (hp : p < 4) (hm : m ≤ 1992) (hv : v p < 997) (hr : re p = nI (v p)) (H : J13 (nI ((s + v p * m) % 997)) (nI (p + 1))) : wY_go_76 post J2 J13 x1 x2 x3 (nI (s % 997)) (nI p) (nI m) sz st en tr re rn tb := by
  have hb : v p * (m % 997) ≤ 996 * 996 := Nat.mul_le_mul (Nat.le_of_lt_succ hv) (by omega)
  refine ⟨vp_in_nI hp (by decide), ww_ne997, ww_ne997, nm_r ?_ (nm_r (nI_1 p) H)⟩
  rw [ww_rd p rfl (by omega) hr, ww_rem _ (by omega), pk_mul, nI_add, ww_rem _ (by omega), ww_acc]
theorem yy_g13 {post : SY → Prop} {J2 : Int32 → (Nat → Int32) → (Nat → Int32) → (Nat → Int32) → (Nat → Int32) → (Nat → Int32) → (Nat → Int32) → (Nat → Int32) → Prop} (ha : a < 3) (ok : ww_OK n B E T) (ay : ww_AY a n B E T sz st en tr) (re rn tb : Nat → Int32) (v : Nat → Nat) (hv : ∀ q, v q < 997) (hr : ∀ q, q < 4 → re q = nI (v q)) (M : Nat → Nat → Nat) (c : Nat) (hM : ww_K T M c) (q : Nat) (hq : q < 4) (H : J2 (nI (q + 1)) sz st en tr re (upd rn q (nI (ww_go M v q))) tb) : ∀ d i, i + d = 4 → wY_go_13 post J2 (nI a) (nI c) (nI q) sz st en tr re rn tb (d + 1) (nI (ww_sm (fun p => v p * M p q) i % 997)) (nI i) := by
  obtain ⟨p1, p2, p3, p4⟩ := ay
  obtain ⟨⟨o1, o2⟩, o3, o4, o5, o6, o7, o8⟩ := ok
  intro d
  induction d with
  | zero =>
    intro i hi
    have e : i = 4 := by omega
    subst e
    exact pk_le 4 4 (fun _ => ww_put q rfl hq (by decide) (nm_r (nI_1 q) H)) (fun h => by omega)
  | succ d ih =>
    intro i hi
    have h0 := o7 0 i q
    have h1 := o7 1 i q
    have r0 : tr (32 * a + 4 * i + q) = nI (T 0 i q) := p4 0 i q (by omega) (by omega) hq
    have r1 : tr (32 * a + 16 + 4 * i + q) = nI (T 1 i q) := p4 1 i q (by omega) (by omega) hq
    have nx := ih (i + 1) (by omega)
    refine pk_le 4 i (fun h => by omega) (fun h => ?_)
    rcases hM with ⟨hc, hM⟩ | ⟨hc, hM⟩
    · obtain rfl | rfl : c = 0 ∨ c = 1 := by omega
      · refine br_f (by decide) ⟨pk_in (32 * a + 4 * i + q) 96 (by omega) (ix_s0 a i q), nm_r (e' := nI (M i q)) ?_ (br_t (by decide) ?_)⟩
        · rw [ww_rd _ (ix_s0 a i q) (by omega) r0, Int32.zero_add, hM]
        · exact yy_g76 re rn tb v _ _ _ _ i _ (by omega) (by rw [hM]; omega) (hv i) (hr i h) nx
      · refine br_t (by decide) (br_f (by decide) ⟨pk_in (32 * a + 16 + 4 * i + q) 96 (by omega) (ix_s1 a i q), nm_r (e' := nI (M i q)) ?_ ?_⟩)
        · rw [ww_rd _ (ix_s1 a i q) (by omega) r1, Int32.zero_add, hM]
        · exact yy_g76 re rn tb v _ _ _ _ i _ (by omega) (by rw [hM]; omega) (hv i) (hr i h) nx
    · subst hc
      refine br_f (by decide) ⟨pk_in (32 * a + 4 * i + q) 96 (by omega) (ix_s0 a i q), nm_r (e' := nI (T 0 i q)) ?_ (br_f (by decide) ⟨pk_in (32 * a + 16 + 4 * i + q) 96 (by omega) (ix_s1 a i q), nm_r (e' := nI (M i q)) ?_ ?_⟩)⟩
      · rw [ww_rd _ (ix_s0 a i q) (by omega) r0, Int32.zero_add]
      · rw [ww_rd _ (ix_s1 a i q) (by omega) r1, hM, nI_add]
      · exact yy_g76 re rn tb v _ _ _ _ i _ (by omega) (by rw [hM]; omega) (hv i) (hr i h) nx
theorem yy_go {post : SY → Prop} (ha : a < 3) (ok : ww_OK n B E T) (ay : ww_AY a n B E T sz st en tr) (re rn tb : Nat → Int32) (v : Nat → Nat) (hv : ∀ q, v q < 997) (hr : ∀ q, q < 4 → re q = nI (v q)) (M : Nat → Nat → Nat) (c : Nat) (hM : ww_K T M c) (H : ∀ re' rn', (∀ q, q < 4 → re' q = nI (ww_go M v q)) → post (sz, st, en, tr, re', rn', tb)) : wpY_go post (sz, st, en, tr, re, rn, tb) (nI a) (nI c) := by
  have cp : ∀ rn, (∀ q, q < 4 → rn q = nI (ww_go M v q)) → ∀ d i re, i + d = 4 → (∀ q, q < i → re q = nI (ww_go M v q)) → wY_go_121 post (d + 1) (nI i) sz st en tr re rn tb := by
    intro rn hrn d
    induction d with
    | zero =>
      intro i re hi hre
      exact pk_le 4 i (fun _ => H re rn (fun q hq => hre q (by omega))) (fun h => by omega)
    | succ d ih =>
      intro i re hi hre
      refine pk_le 4 i (fun h => by omega) (fun h => ?_)
      refine ⟨vp_in_nI (by omega) (by decide), ww_put i rfl (by omega) (by decide) (nm_r (nI_1 i) (ih (i + 1) _ (by omega) ?_))⟩
      intro q hq
      by_cases e : q = i
      · subst e
        rw [pk_us, ww_rd q rfl (by omega) (hrn q (by omega))]
      · rw [pk_un e]
        exact hre q (by omega)
  have key : ∀ d i rn, i + d = 4 → (∀ q, q < i → rn q = nI (ww_go M v q)) → wY_go_2 post (nI a) (nI c) (d + 1) (nI i) sz st en tr re rn tb := by
    intro d
    induction d with
    | zero =>
      intro i rn hi hrn
      exact pk_le 4 i (fun _ => ⟨5, cp rn (fun q hq => hrn q (by omega)) 4 0 re (by omega) (fun q hq => by omega)⟩) (fun h => by omega)
    | succ d ih =>
      intro i rn hi hrn
      refine pk_le 4 i (fun h => by omega) (fun h => ⟨5, ?_⟩)
      refine yy_g13 ha ok ay re rn tb v hv hr M c hM i h (ih (i + 1) _ (by omega) ?_) 4 0 (by omega)
      intro q hq
      by_cases e : q = i
      · subst e
        rw [pk_us]
      · rw [pk_un e]
        exact hrn q (by omega)
  exact ⟨5, key 4 0 rn (by omega) (fun q hq => by omega)⟩
theorem yy_w13 {post : Int32 → SY → Prop} (ha : a < 3) (ok : ww_OK n B E T) (ay : ww_AY a n B E T sz st en tr) (tb : Nat → Int32) (c : Nat) (hc : c < 4096) : ∀ k, k < 12 → ∀ (v : Nat → Nat) (re rn : Nat → Int32), (∀ q, v q < 997) → (∀ q, q < 4 → re q = nI (v q)) → (∀ re' rn', post (nI (ww_fin E (ww_run T (ww_bits c k) v))) (sz, st, en, tr, re', rn', tb)) → wY_worth_13 post (nI a) (nI c) (k + 1) (nI k - 1) sz st en tr re rn tb := by
  intro k
  induction k with
  | zero =>
    intro _ v re rn hv hr H
    exact br_t ww_neg1 (yy_finish ha ok ay re rn tb v hv hr (H re rn))
  | succ k ih =>
    intro hk v re rn hv hr H
    rw [nI_pred]
    refine br_f (nI_pos (by omega)) ?_
    rw [ww_let c k hc (by omega)]
    refine yy_go ha ok ay re rn tb v hv hr (T (c / 2 ^ k % 2)) _ (Or.inl ⟨by omega, fun _ _ => rfl⟩) ?_
    intro re' rn' h'
    exact nm_r (ww_dn k) (ih (by omega) _ re' rn' (ww_go_lt _ _) h' H)
theorem yy_wo {post : Int32 → SY → Prop} (ha : a < 3) (ok : ww_OK n B E T) (ay : ww_AY a n B E T sz st en tr) (re rn tb : Nat → Int32) (c : Nat) (h1 : 1 ≤ c) (hc : c < 4096) (H : ∀ re' rn', post (nI (ww_wt B E T c)) (sz, st, en, tr, re', rn', tb)) : wpY_worth post (sz, st, en, tr, re, rn, tb) (nI a) (nI c) := by
  refine yy_begin ha ay re rn tb ?_
  intro re' hr
  refine yy_len _ c h1 hc (nm_e ⟨c.log2 + 1, ?_⟩)
  exact yy_w13 ha ok ay tb c hc c.log2 (ww_log12 c h1 hc) B re' rn ok.2.1 hr H
end
end
section
/-! 997 is prime; five vectors of four numbers are dependent; a weight that is 0 on short words is 0 -/
def ww_inv (v : Nat) : Nat := v ^ 995 % 997
theorem ww_inv_tab : ∀ v, v < 997 → 1 ≤ v → v * ww_inv v % 997 = 1 := by decide +kernel
theorem ww_inv_lt (v : Nat) : ww_inv v < 997 := Nat.mod_lt _ (by decide)
theorem ww_euc {x y : Int} (h : (997 : Int) ∣ x * y) (hx : ¬ (997 : Int) ∣ x) : (997 : Int) ∣ y := by
  have h1 : 0 < x % 997 := by omega
  have h2 : x % 997 < 997 := by omega
  obtain ⟨r, hr⟩ : ∃ r : Nat, x % 997 = r := ⟨(x % 997).toNat, by omega⟩
  have h3 := ww_inv_tab r (by omega) (by omega)
  obtain ⟨w, hw⟩ := h
  have e1 : x = r + 997 * (x / 997) := by omega
  have e2 : (r * ww_inv r : Nat) = 1 + 997 * (r * ww_inv r / 997) := by omega
  have e3 : (r : Int) * (ww_inv r : Int) = 1 + 997 * ((r * ww_inv r / 997 : Nat) : Int) := by
    rw [← Int.natCast_mul, e2]
    simp
    omega
  generalize x / 997 = t at e1
  generalize ((r * ww_inv r / 997 : Nat) : Int) = m at e3
  generalize (ww_inv r : Int) = k at e3
  generalize (r : Int) = s at e1 e3
  refine ⟨k * w - t * k * y - m * y, ?_⟩
  subst e1
  grind
def ww_ls (l : List Nat) (f : Nat → Int) : Int := match l with
  | [] => 0
  | q :: l => f q + ww_ls l f
theorem ww_ls_lin (g h : Nat → Int) (x y : Int) : ∀ l, ww_ls l (fun q => g q * x - h q * y) = x * ww_ls l g - y * ww_ls l h
  | [] => by simp [ww_ls]
  | q :: l => by
    have := ww_ls_lin g h x y l
    simp only [ww_ls]
    rw [this]
    grind
theorem ww_ls_d {g : Nat → Int} : ∀ l : List Nat, (∀ q, q ∈ l → (997 : Int) ∣ g q) → (997 : Int) ∣ ww_ls l g
  | [], _ => ⟨0, rfl⟩
  | q :: l, h => by
    have h1 := ww_ls_d l (fun r hr => h r (List.mem_cons_of_mem _ hr))
    have h2 := h q (List.mem_cons_self ..)
    simp only [ww_ls]
    omega
theorem ww_ls_er {g : Nat → Int} {r : Nat} : ∀ l : List Nat, r ∈ l → ww_ls l g = g r + ww_ls (l.erase r) g
  | [], h => by simp at h
  | q :: l, h => by
    by_cases e : q = r
    · subst e
      simp [ww_ls]
    · have hm : r ∈ l := by
        rcases List.mem_cons.mp h with z | z
        · exact (e z.symm).elim
        · exact z
      have := ww_ls_er (g := g) l hm
      rw [List.erase_cons_tail (by simpa using e)]
      simp only [ww_ls]
      rw [this]
      omega
theorem ww_tri : ∀ (m : Nat) (l : List Nat), l.length = m → ∀ v f : Nat → Nat → Int, (∀ i j, i < j → j ≤ m → (997 : Int) ∣ ww_ls l (fun q => v i q * f j q)) → (∀ i, i ≤ m → ¬ (997 : Int) ∣ ww_ls l (fun q => v i q * f i q)) → False := by
  intro m
  induction m with
  | zero =>
    intro l hl v f _ hd
    have : l = [] := List.length_eq_zero_iff.mp hl
    subst this
    exact hd 0 (Nat.le_refl _) ⟨0, rfl⟩
  | succ m ih =>
    intro l hl v f hz hd
    have ex : ∃ r, r ∈ l ∧ ¬ (997 : Int) ∣ v 0 r := by
      apply Classical.byContradiction
      intro hn
      refine hd 0 (by omega) (ww_ls_d l (fun q hq => ?_))
      apply Classical.byContradiction
      intro h1
      exact hn ⟨q, hq, fun z => h1 (Int.dvd_mul_of_dvd_left z)⟩
    obtain ⟨r, hr, hv⟩ := ex
    have key : ∀ i j, ww_ls (l.erase r) (fun q => (v (i + 1) q * v 0 r - v 0 q * v (i + 1) r) * f (j + 1) q) = v 0 r * ww_ls l (fun q => v (i + 1) q * f (j + 1) q) - v (i + 1) r * ww_ls l (fun q => v 0 q * f (j + 1) q) := by
      intro i j
      have h1 := ww_ls_er (g := fun q => (v (i + 1) q * v 0 r - v 0 q * v (i + 1) r) * f (j + 1) q) l hr
      have h2 : (v (i + 1) r * v 0 r - v 0 r * v (i + 1) r) * f (j + 1) r = 0 := by grind
      have h3 : (fun q => (v (i + 1) q * v 0 r - v 0 q * v (i + 1) r) * f (j + 1) q) = (fun q => (v (i + 1) q * f (j + 1) q) * v 0 r - (v 0 q * f (j + 1) q) * v (i + 1) r) := by
        funext q
        grind
      have h4 := ww_ls_lin (fun q => v (i + 1) q * f (j + 1) q) (fun q => v 0 q * f (j + 1) q) (v 0 r) (v (i + 1) r) l
      rw [← h4, ← h3, h1]
      simp only [h2, Int.zero_add]
    refine ih (l.erase r) (by rw [List.length_erase_of_mem hr, hl]; rfl) (fun i q => v (i + 1) q * v 0 r - v 0 q * v (i + 1) r) (fun j q => f (j + 1) q) ?_ ?_
    · intro i j hij hj
      show (997 : Int) ∣ ww_ls (l.erase r) (fun q => (v (i + 1) q * v 0 r - v 0 q * v (i + 1) r) * f (j + 1) q)
      rw [key]
      exact Int.dvd_sub (Int.dvd_mul_of_dvd_right (hz (i + 1) (j + 1) (by omega) (by omega))) (Int.dvd_mul_of_dvd_right (hz 0 (j + 1) (by omega) (by omega)))
    · intro i hi
      show ¬ (997 : Int) ∣ ww_ls (l.erase r) (fun q => (v (i + 1) q * v 0 r - v 0 q * v (i + 1) r) * f (i + 1) q)
      rw [key]
      intro hc
      have h2 : (997 : Int) ∣ v (i + 1) r * ww_ls l (fun q => v 0 q * f (i + 1) q) := Int.dvd_mul_of_dvd_right (hz 0 (i + 1) (by omega) (by omega))
      have h3 : (997 : Int) ∣ v 0 r * ww_ls l (fun q => v (i + 1) q * f (i + 1) q) := by omega
      exact hd (i + 1) (by omega) (ww_euc h3 hv)
section
variable {n : Nat} {B E : Nat → Nat} {T : Nat → Nat → Nat → Nat}
def ww_F (E : Nat → Nat) (T : Nat → Nat → Nat → Nat) : List Nat → Nat → Int
  | [], q => E q
  | c :: w, q => ww_ls [0, 1, 2, 3] (fun r => (T c q r : Int) * ww_F E T w r)
theorem ww_cg (s : Nat) : ∃ t : Int, ((s % 997 : Nat) : Int) = (s : Int) - 997 * t := ⟨(s / 997 : Nat), by omega⟩
theorem ww_gc (M : Nat → Nat → Nat) (v : Nat → Nat) (q : Nat) : ∃ t : Int, ((ww_go M v q : Nat) : Int) = (v 0 : Int) * M 0 q + v 1 * M 1 q + v 2 * M 2 q + v 3 * M 3 q - 997 * t := by
  obtain ⟨t, ht⟩ := ww_cg (ww_sm (fun p => v p * M p q) 4)
  refine ⟨t, ht.trans ?_⟩
  simp [ww_sm]
theorem ww_bf : ∀ (w : List Nat) (v : Nat → Nat), (997 : Int) ∣ ((ww_fin E (ww_run T w v) : Nat) : Int) - ww_ls [0, 1, 2, 3] (fun q => (v q : Int) * ww_F E T w q)
  | [], v => by
    obtain ⟨t, ht⟩ := ww_cg (ww_sm (fun q => v q * E q) 4)
    refine ⟨-t, ?_⟩
    show ((ww_sm (fun q => v q * E q) 4 % 997 : Nat) : Int) - _ = _
    rw [ht]
    simp [ww_sm, ww_ls, ww_F]
    omega
  | c :: w, v => by
    obtain ⟨k, hk⟩ := ww_bf w (ww_go (T c) v)
    obtain ⟨t0, h0⟩ := ww_gc (T c) v 0
    obtain ⟨t1, h1⟩ := ww_gc (T c) v 1
    obtain ⟨t2, h2⟩ := ww_gc (T c) v 2
    obtain ⟨t3, h3⟩ := ww_gc (T c) v 3
    show (997 : Int) ∣ ((ww_fin E (ww_run T w (ww_go (T c) v)) : Nat) : Int) - _
    generalize ((ww_fin E (ww_run T w (ww_go (T c) v)) : Nat) : Int) = z at hk
    simp only [ww_ls, ww_F] at hk ⊢
    rw [h0, h1, h2, h3] at hk
    generalize ww_F E T w 0 = f0 at hk ⊢
    generalize ww_F E T w 1 = f1 at hk ⊢
    generalize ww_F E T w 2 = f2 at hk ⊢
    generalize ww_F E T w 3 = f3 at hk ⊢
    refine ⟨k - (t0 * f0 + t1 * f1 + t2 * f2 + t3 * f3), ?_⟩
    grind
theorem ww_run_app (u w : List Nat) (v : Nat → Nat) : ww_run T (u ++ w) v = ww_run T w (ww_run T u v) := by
  induction u generalizing v with
  | nil => rfl
  | cons c u ih => exact ih _
theorem ww_word (h : ∀ w : List Nat, w.length ≤ 3 → (∀ c, c ∈ w → c < 2) → ww_fin E (ww_run T w B) = 0) : ∀ (L : Nat) (w : List Nat), w.length = L → (∀ c, c ∈ w → c < 2) → ww_fin E (ww_run T w B) = 0 := by
  intro L
  induction L using Nat.strongRecOn with
  | ind L ih =>
    intro w hw hl
    by_cases h3 : L ≤ 3
    · exact h w (by omega) hl
    · apply Classical.byContradiction
      intro hne
      refine ww_tri 4 [0, 1, 2, 3] rfl (fun i q => (ww_run T (w.take i) B q : Int)) (fun j q => ww_F E T (w.drop j) q) ?_ ?_
      · intro i j hij hj
        have h1 := ww_bf (E := E) (T := T) (w.drop j) (ww_run T (w.take i) B)
        rw [← ww_run_app] at h1
        have h2 := ih (w.take i ++ w.drop j).length (by rw [List.length_append, List.length_take, List.length_drop]; omega) (w.take i ++ w.drop j) rfl (fun c hc => by
          rcases List.mem_append.mp hc with z | z
          · exact hl c (List.mem_of_mem_take z)
          · exact hl c (List.mem_of_mem_drop z))
        rw [h2] at h1
        omega
      · intro i hi
        have h1 := ww_bf (E := E) (T := T) (w.drop i) (ww_run T (w.take i) B)
        rw [← ww_run_app, List.take_append_drop] at h1
        have h2 := ww_fin_lt E (ww_run T w B)
        omega
theorem ww_words : ∀ w : List Nat, w.length ≤ 3 → (∀ c, c ∈ w → c < 2) → ∃ c, 1 ≤ c ∧ c < 16 ∧ ww_bits c c.log2 = w
  | [], _, _ => ⟨1, by decide, by decide, by decide +kernel⟩
  | [x], _, h => by
    have hx : x = 0 ∨ x = 1 := by have := h x (by simp); omega
    rcases hx with rfl | rfl
    · exact ⟨2, by decide, by decide, by decide +kernel⟩
    · exact ⟨3, by decide, by decide, by decide +kernel⟩
  | [x, y], _, h => by
    have hx : x = 0 ∨ x = 1 := by have := h x (by simp); omega
    have hy : y = 0 ∨ y = 1 := by have := h y (by simp); omega
    rcases hx with rfl | rfl <;> rcases hy with rfl | rfl
    · exact ⟨4, by decide, by decide, by decide +kernel⟩
    · exact ⟨5, by decide, by decide, by decide +kernel⟩
    · exact ⟨6, by decide, by decide, by decide +kernel⟩
    · exact ⟨7, by decide, by decide, by decide +kernel⟩
  | [x, y, z], _, h => by
    have hx : x = 0 ∨ x = 1 := by have := h x (by simp); omega
    have hy : y = 0 ∨ y = 1 := by have := h y (by simp); omega
    have hz : z = 0 ∨ z = 1 := by have := h z (by simp); omega
    rcases hx with rfl | rfl <;> rcases hy with rfl | rfl <;> rcases hz with rfl | rfl
    · exact ⟨8, by decide, by decide, by decide +kernel⟩
    · exact ⟨9, by decide, by decide, by decide +kernel⟩
    · exact ⟨10, by decide, by decide, by decide +kernel⟩
    · exact ⟨11, by decide, by decide, by decide +kernel⟩
    · exact ⟨12, by decide, by decide, by decide +kernel⟩
    · exact ⟨13, by decide, by decide, by decide +kernel⟩
    · exact ⟨14, by decide, by decide, by decide +kernel⟩
    · exact ⟨15, by decide, by decide, by decide +kernel⟩
  | _ :: _ :: _ :: _ :: _, h, _ => by simp at h
theorem ww_bits_lt (c : Nat) : ∀ (k x : Nat), x ∈ ww_bits c k → x < 2
  | 0, x, h => by simp [ww_bits] at h
  | k + 1, x, h => by
    rcases List.mem_cons.mp h with z | z
    · omega
    · exact ww_bits_lt c k x z
/-- a weight that is 0 on the words of at most three letters is 0 on every word -/
theorem ww_van (h : ∀ c, 1 ≤ c → c < 16 → ww_wt B E T c = 0) (c : Nat) : ww_wt B E T c = 0 := by
  refine ww_word (fun w hw hl => ?_) _ (ww_bits c c.log2) rfl (ww_bits_lt c _)
  obtain ⟨c', h1, h2, h3⟩ := ww_words w hw hl
  have := h c' h1 h2
  unfold ww_wt at this
  rw [h3] at this
  exact this
end
end
section
/-! the methods that only answer: states, weight, equivalent, difference, total, first, isSum -/
theorem ww_cs (x : Int32) : (x < 0 ∨ nI 3 ≤ x) ∨ ∃ a : Nat, a < 3 ∧ x = nI a := by
  rcases pk_ix x (n := 3) (by decide) with h | h | h
  · exact Or.inl (Or.inl h)
  · exact Or.inl (Or.inr h)
  · exact Or.inr h
theorem ww_rng {x : Int32} (lo hi : Nat) (h1 : ¬ x < nI lo) (h2 : x ≤ nI hi) (hl : lo < 2 ^ 31) (hh : hi < 2 ^ 31) : ∃ c : Nat, lo ≤ c ∧ c ≤ hi ∧ x = nI c := by
  have h0 : ¬ x < 0 := fun z => h1 (Int32.lt_of_lt_of_le z (nI_pos' hl))
  obtain ⟨c, hc, rfl⟩ := nI_of h0
  rw [nI_ltI hc hl] at h1
  rw [nI_leI hc hh] at h2
  exact ⟨c, by omega, h2, rfl⟩
/-- the first code that hits, of d codes from i on; 0 if none -/
def ww_ff (h : Nat → Bool) : Nat → Nat → Nat
  | 0, _ => 0
  | d + 1, i => if h i then i else ww_ff h d (i + 1)
def ww_al (h : Nat → Bool) : Nat → Nat → Nat
  | 0, _ => 1
  | d + 1, i => if h i then 0 else ww_al h d (i + 1)
theorem ww_ff_t {h : Nat → Bool} {d i : Nat} (e : h i = true) : ww_ff h (d + 1) i = i := by simp [ww_ff, e]
theorem ww_ff_f {h : Nat → Bool} {d i : Nat} (e : h i = false) : ww_ff h (d + 1) i = ww_ff h d (i + 1) := by simp [ww_ff, e]
theorem ww_al_t {h : Nat → Bool} {d i : Nat} (e : h i = true) : ww_al h (d + 1) i = 0 := by simp [ww_al, e]
theorem ww_al_f {h : Nat → Bool} {d i : Nat} (e : h i = false) : ww_al h (d + 1) i = ww_al h d (i + 1) := by simp [ww_al, e]
def ww_ne (x y : Nat) : Bool := !(x == y)
theorem ww_ne_t {x y : Nat} (h : x ≠ y) : ww_ne x y = true := by simp [ww_ne, h]
theorem ww_ne_f {x y : Nat} (h : x = y) : ww_ne x y = false := by simp [ww_ne, h]
theorem ww_ff_le (h : Nat → Bool) : ∀ d i, ww_ff h d i < i + d + 1
  | 0, i => by simp [ww_ff]
  | d + 1, i => by
    have := ww_ff_le h d (i + 1)
    simp only [ww_ff]
    split <;> omega
theorem ww_ff_z {h : Nat → Bool} : ∀ d i, (∀ c, i ≤ c → c < i + d → h c = false) → ww_ff h d i = 0
  | 0, i, _ => rfl
  | d + 1, i, H => by
    rw [ww_ff_f (H i (by omega) (by omega))]
    exact ww_ff_z d (i + 1) (fun c h1 h2 => H c (by omega) (by omega))
/-- fifteen codes decide -/
theorem ww_ff_more {h : Nat → Bool} (e : Nat) : ∀ d i, ((∀ c, i ≤ c → c < i + d → h c = false) → ∀ c, i + d ≤ c → h c = false) → ww_ff h d i = ww_ff h (d + e) i
  | 0, i, H => by
    have := H (fun c h1 h2 => by omega)
    rw [Nat.zero_add]
    exact (ww_ff_z e i (fun c h1 _ => this c (by omega))).symm
  | d + 1, i, H => by
    rw [show d + 1 + e = (d + e) + 1 by omega]
    cases hi : h i with
    | true => rw [ww_ff_t hi, ww_ff_t hi]
    | false =>
      rw [ww_ff_f hi, ww_ff_f hi]
      refine ww_ff_more e d (i + 1) (fun H2 c hc => H (fun c' h1 h2 => ?_) c (by omega))
      by_cases z : c' = i
      · rw [z, hi]
      · exact H2 c' (by omega) (by omega)
theorem i_vc_states {k : Nat} {u : SX} {v : SY} (I : i_Rel k u v) (hk : k + 5 ≤ 2560) (v1 : Int32) : wpX_states (fun r => wpY_states (fun r' => r' = r ∧ i_Rel (k + 5) u v) v v1) u v1 := by
  obtain ⟨xs, xb, xe, xt, xr, xn, xg⟩ := u
  obtain ⟨ys, yb, ye, yt, yr, yn, yg⟩ := v
  unfold wpX_states wpY_states
  dsimp only
  rcases ww_cs v1 with h | ⟨a, ha, rfl⟩
  · refine xx_auB _ h ?_
    refine br_t rfl ?_
    refine yy_bdB _ _ h ?_
    exact br_f (by decide) ⟨rfl, I⟩
  · obtain ⟨n, B, E, T, ok, ax, ay⟩ := I a ha
    refine xx_au a ha ?_
    refine br_f (by decide) ?_
    refine ⟨ww_a3 a ha, ?_⟩
    refine yy_bd _ a ha ?_
    refine br_t rfl ?_
    refine ⟨ww_a3 a ha, ?_, I⟩
    exact (ww_rd a rfl (by omega) ay.1).trans (ww_rd a rfl (by omega) ax.1).symm
theorem i_vc_weight {k : Nat} {u : SX} {v : SY} (I : i_Rel k u v) (hk : k + 5 ≤ 2560) (v1 : Int32) (v2 : Int32) : wpX_weight (fun r u' => wpY_weight (fun r' v' => r' = r ∧ i_Rel (k + 5) u' v') v v1 v2) u v1 v2 := by
  obtain ⟨xs, xb, xe, xt, xr, xn, xg⟩ := u
  obtain ⟨ys, yb, ye, yt, yr, yn, yg⟩ := v
  unfold wpX_weight wpY_weight
  dsimp only
  rcases ww_cs v1 with h | ⟨a, ha, rfl⟩
  · refine xx_auB _ h ?_
    refine br_t rfl ?_
    refine yy_bdB _ _ h ?_
    exact br_f (by decide) ⟨rfl, I⟩
  · obtain ⟨n, B, E, T, ok, ax, ay⟩ := I a ha
    by_cases h1 : v2 < 1
    · refine xx_au a ha ?_
      refine br_f (by decide) ?_
      refine br_t h1 ?_
      refine yy_bd _ a ha ?_
      refine br_t rfl ?_
      exact br_t h1 ⟨rfl, I⟩
    · by_cases h2 : v2 ≤ 1023
      · obtain ⟨c, c1, c2, rfl⟩ := ww_rng 1 1023 h1 h2 (by decide) (by decide)
        refine xx_au a ha ?_
        refine br_f (by decide) ?_
        refine br_f h1 ?_
        refine br_t h2 ?_
        refine xx_wo ha ok ax _ _ _ c c1 (by omega) (fun re' rn' => ?_)
        refine yy_bd _ a ha ?_
        refine br_t rfl ?_
        refine br_f h1 ?_
        refine br_t h2 ?_
        refine yy_wo ha ok ay _ _ _ c c1 (by omega) (fun re'' rn'' => ?_)
        exact ⟨rfl, I⟩
      · refine xx_au a ha ?_
        refine br_f (by decide) ?_
        refine br_f h1 ?_
        refine br_f h2 ?_
        refine yy_bd _ a ha ?_
        refine br_t rfl ?_
        refine br_f h1 ?_
        exact br_f h2 ⟨rfl, I⟩
theorem xx_ld {post : Int32 → SX → Prop} {a b n m : Nat} {B E B' E' : Nat → Nat} {T T' : Nat → Nat → Nat → Nat} {sz st en tr : Nat → Int32} (ha : a < 3) (hb : b < 3) (ok : ww_OK n B E T) (ax : ww_AX a n B E T sz st en tr) (ok' : ww_OK m B' E' T') (ax' : ww_AX b m B' E' T' sz st en tr) (g : Nat → Bool) (hg : ∀ c, g c = ww_ne (ww_wt B E T c) (ww_wt B' E' T' c)) (tb : Nat → Int32) (re rn : Nat → Int32) (H : ∀ re' rn', post (nI (ww_ff g 255 1)) (sz, st, en, tr, re', rn', tb)) : wpX_leastDifference post (sz, st, en, tr, re, rn, tb) (nI a) (nI b) := by
  have key : ∀ d i re rn, i + d = 256 → 1 ≤ i → (∀ re' rn', post (nI (ww_ff g d i)) (sz, st, en, tr, re', rn', tb)) → wX_leastDifference_2 post (nI a) (nI b) (d + 1) (nI i) sz st en tr re rn tb := by
    intro d
    induction d with
    | zero =>
      intro i re rn hi h1 H
      exact pk_lt 255 i (fun _ => H re rn) (fun h => by omega)
    | succ d ih =>
      intro i re rn hi h1 H
      refine pk_lt 255 i (fun h => by omega) (fun h => ?_)
      refine xx_wo ha ok ax re rn tb i h1 (by omega) (fun re1 rn1 => ?_)
      refine xx_wo hb ok' ax' re1 rn1 tb i h1 (by omega) (fun re2 rn2 => ?_)
      have l1 := ww_wt_lt B E T i
      have l2 := ww_wt_lt B' E' T' i
      refine pk_eq (ww_wt B E T i) (ww_wt B' E' T' i) (fun e => nm_r (nI_1 i) (ih (i + 1) re2 rn2 (by omega) (by omega) ?_)) (fun e => ?_)
      · intro re' rn'
        have := H re' rn'
        rw [ww_ff_f ((hg i).trans (ww_ne_f e))] at this
        exact this
      · have := H re2 rn2
        rw [ww_ff_t ((hg i).trans (ww_ne_t e))] at this
        exact this
  exact ⟨256, key 255 1 re rn (by omega) (by omega) H⟩
theorem yy_ap {post : Int32 → SY → Prop} {a b n m : Nat} {B E B' E' : Nat → Nat} {T T' : Nat → Nat → Nat → Nat} {sz st en tr : Nat → Int32} (ha : a < 3) (hb : b < 3) (ok : ww_OK n B E T) (ay : ww_AY a n B E T sz st en tr) (ok' : ww_OK m B' E' T') (ay' : ww_AY b m B' E' T' sz st en tr) (g : Nat → Bool) (hg : ∀ c, g c = ww_ne (ww_wt B E T c) (ww_wt B' E' T' c)) (tb : Nat → Int32) (re rn : Nat → Int32) (H : ∀ re' rn', post (nI (ww_ff g 255 1)) (sz, st, en, tr, re', rn', tb)) : wpY_apart post (sz, st, en, tr, re, rn, tb) (nI a) (nI b) := by
  have key : ∀ d i re rn, i + d = 256 → 1 ≤ i → (∀ re' rn', post (nI (ww_ff g d i)) (sz, st, en, tr, re', rn', tb)) → wY_apart_2 post (nI a) (nI b) (d + 1) (nI i) sz st en tr re rn tb := by
    intro d
    induction d with
    | zero =>
      intro i re rn hi h1 H
      exact pk_le 256 i (fun _ => H re rn) (fun h => by omega)
    | succ d ih =>
      intro i re rn hi h1 H
      refine pk_le 256 i (fun h => by omega) (fun h => ?_)
      refine yy_wo ha ok ay re rn tb i h1 (by omega) (fun re1 rn1 => ?_)
      refine yy_wo hb ok' ay' re1 rn1 tb i h1 (by omega) (fun re2 rn2 => ?_)
      have l1 := ww_wt_lt B E T i
      have l2 := ww_wt_lt B' E' T' i
      refine pk_eq (ww_wt B E T i) (ww_wt B' E' T' i) (fun e => nm_r (nI_1 i) (ih (i + 1) re2 rn2 (by omega) (by omega) ?_)) (fun e => ?_)
      · intro re' rn'
        have := H re' rn'
        rw [ww_ff_f ((hg i).trans (ww_ne_f e))] at this
        exact this
      · have := H re2 rn2
        rw [ww_ff_t ((hg i).trans (ww_ne_t e))] at this
        exact this
  exact ⟨256, key 255 1 re rn (by omega) (by omega) H⟩
theorem i_vc_difference {k : Nat} {u : SX} {v : SY} (I : i_Rel k u v) (hk : k + 5 ≤ 2560) (v1 : Int32) (v2 : Int32) : wpX_difference (fun r u' => wpY_difference (fun r' v' => r' = r ∧ i_Rel (k + 5) u' v') v v1 v2) u v1 v2 := by
  obtain ⟨xs, xb, xe, xt, xr, xn, xg⟩ := u
  obtain ⟨ys, yb, ye, yt, yr, yn, yg⟩ := v
  unfold wpX_difference wpY_difference
  dsimp only
  rcases ww_cs v1 with h | ⟨a, ha, rfl⟩
  · refine xx_auB _ h ?_
    refine br_t rfl ?_
    refine yy_bdB _ _ h ?_
    exact br_f (by decide) ⟨rfl, I⟩
  · rcases ww_cs v2 with h | ⟨b, hb, rfl⟩
    · refine xx_au a ha ?_
      refine br_f (by decide) ?_
      refine xx_auB _ h ?_
      refine br_t rfl ?_
      refine yy_bd _ a ha ?_
      refine br_t rfl ?_
      refine yy_bdB _ _ h ?_
      exact br_f (by decide) ⟨rfl, I⟩
    · obtain ⟨n, B, E, T, ok, ax, ay⟩ := I a ha
      obtain ⟨m, B', E', T', ok', ax', ay'⟩ := I b hb
      refine xx_au a ha ?_
      refine br_f (by decide) ?_
      refine xx_au b hb ?_
      refine br_f (by decide) ?_
      refine xx_ld ha hb ok ax ok' ax' _ (fun _ => rfl) _ _ _ (fun re rn => ?_)
      refine yy_bd _ a ha ?_
      refine br_t rfl ?_
      refine yy_bd _ b hb ?_
      refine br_t rfl ?_
      refine yy_ap ha hb ok ay ok' ay' _ (fun _ => rfl) _ _ _ (fun re' rn' => ?_)
      exact ⟨rfl, I⟩
theorem i_vc_equivalent {k : Nat} {u : SX} {v : SY} (I : i_Rel k u v) (hk : k + 5 ≤ 2560) (v1 : Int32) (v2 : Int32) : wpX_equivalent (fun r u' => wpY_equivalent (fun r' v' => r' = r ∧ i_Rel (k + 5) u' v') v v1 v2) u v1 v2 := by
  obtain ⟨xs, xb, xe, xt, xr, xn, xg⟩ := u
  obtain ⟨ys, yb, ye, yt, yr, yn, yg⟩ := v
  unfold wpX_equivalent wpY_equivalent
  dsimp only
  rcases ww_cs v1 with h | ⟨a, ha, rfl⟩
  · refine xx_auB _ h ?_
    refine br_t rfl ?_
    refine yy_bdB _ _ h ?_
    exact br_f (by decide) ⟨rfl, I⟩
  · rcases ww_cs v2 with h | ⟨b, hb, rfl⟩
    · refine xx_au a ha ?_
      refine br_f (by decide) ?_
      refine xx_auB _ h ?_
      refine br_t rfl ?_
      refine yy_bd _ a ha ?_
      refine br_t rfl ?_
      refine yy_bdB _ _ h ?_
      exact br_f (by decide) ⟨rfl, I⟩
    · obtain ⟨n, B, E, T, ok, ax, ay⟩ := I a ha
      obtain ⟨m, B', E', T', ok', ax', ay'⟩ := I b hb
      refine xx_au a ha ?_
      refine br_f (by decide) ?_
      refine xx_au b hb ?_
      refine br_f (by decide) ?_
      refine xx_ld ha hb ok ax ok' ax' _ (fun _ => rfl) _ _ _ (fun re rn => ?_)
      refine br_c (fun z => ?_) (fun z => ?_)
      · refine yy_bd _ a ha ?_
        refine br_t rfl ?_
        refine yy_bd _ b hb ?_
        refine br_t rfl ?_
        refine yy_ap ha hb ok ay ok' ay' _ (fun _ => rfl) _ _ _ (fun re' rn' => ?_)
        exact br_t z ⟨rfl, I⟩
      · refine yy_bd _ a ha ?_
        refine br_t rfl ?_
        refine yy_bd _ b hb ?_
        refine br_t rfl ?_
        refine yy_ap ha hb ok ay ok' ay' _ (fun _ => rfl) _ _ _ (fun re' rn' => ?_)
        exact br_f z ⟨rfl, I⟩
def ww_it (M : Nat → Nat → Nat) : Nat → (Nat → Nat) → (Nat → Nat)
  | 0, v => v
  | k + 1, v => ww_it M k (ww_go M v)
theorem xx_t30 {post : Int32 → SX → Prop} {a n : Nat} {B E : Nat → Nat} {T : Nat → Nat → Nat → Nat} {sz st en tr : Nat → Int32} (ha : a < 3) (ok : ww_OK n B E T) (ax : ww_AX a n B E T sz st en tr) (tb : Nat → Int32) (N : Nat) (hN : N ≤ 200) : ∀ d i (v : Nat → Nat) (re rn : Nat → Int32), i + d = N → (∀ q, v q < 997) → (∀ q, q < n → re q = nI (v q)) → (∀ re' rn', post (nI (ww_fin E (ww_it (fun p q => T 0 p q + T 1 p q) d v))) (sz, st, en, tr, re', rn', tb)) → wX_total_30 post (nI a) (nI N) (d + 1) (nI i) sz st en tr re rn tb := by
  intro d
  induction d with
  | zero =>
    intro i v re rn hi hv hr H
    exact pk_le N i (fun _ => xx_wr ha ok ax re rn tb v hv hr (H re rn)) (fun h => by omega)
  | succ d ih =>
    intro i v re rn hi hv hr H
    refine pk_le N i (fun h => by omega) (fun h => ?_)
    refine xx_ro ha ok ax re rn tb v hv hr (fun p q => T 0 p q + T 1 p q) 0 1 (Or.inr ⟨rfl, rfl, fun _ _ => rfl⟩) (fun re' rn' h' => nm_r (nI_1 i) (ih (i + 1) _ re' rn' (by omega) (ww_go_lt _ _) h' H))
theorem yy_t31 {post : Int32 → SY → Prop} {a n : Nat} {B E : Nat → Nat} {T : Nat → Nat → Nat → Nat} {sz st en tr : Nat → Int32} (ha : a < 3) (ok : ww_OK n B E T) (ay : ww_AY a n B E T sz st en tr) (tb : Nat → Int32) (N : Nat) (hN : N ≤ 200) : ∀ d i (v : Nat → Nat) (re rn : Nat → Int32), i + d = N → (∀ q, v q < 997) → (∀ q, q < 4 → re q = nI (v q)) → (∀ re' rn', post (nI (ww_fin E (ww_it (fun p q => T 0 p q + T 1 p q) d v))) (sz, st, en, tr, re', rn', tb)) → wY_total_31 post (nI a) (nI N) (d + 1) (nI i) sz st en tr re rn tb := by
  intro d
  induction d with
  | zero =>
    intro i v re rn hi hv hr H
    exact pk_le N i (fun _ => yy_finish ha ok ay re rn tb v hv hr (H re rn)) (fun h => by omega)
  | succ d ih =>
    intro i v re rn hi hv hr H
    refine pk_le N i (fun h => by omega) (fun h => ?_)
    refine yy_go ha ok ay re rn tb v hv hr (fun p q => T 0 p q + T 1 p q) 2 (Or.inr ⟨rfl, fun _ _ => rfl⟩) (fun re' rn' h' => nm_r (nI_1 i) (ih (i + 1) _ re' rn' (by omega) (ww_go_lt _ _) h' H))
theorem i_vc_total {k : Nat} {u : SX} {v : SY} (I : i_Rel k u v) (hk : k + 5 ≤ 2560) (v1 : Int32) (v2 : Int32) : wpX_total (fun r u' => wpY_total (fun r' v' => r' = r ∧ i_Rel (k + 5) u' v') v v1 v2) u v1 v2 := by
  obtain ⟨xs, xb, xe, xt, xr, xn, xg⟩ := u
  obtain ⟨ys, yb, ye, yt, yr, yn, yg⟩ := v
  unfold wpX_total wpY_total
  dsimp only
  rcases ww_cs v1 with h | ⟨a, ha, rfl⟩
  · refine xx_auB _ h ?_
    refine br_t rfl ?_
    refine yy_bdB _ _ h ?_
    exact br_f (by decide) ⟨rfl, I⟩
  · obtain ⟨n, B, E, T, ok, ax, ay⟩ := I a ha
    by_cases h1 : v2 < 0
    · refine xx_au a ha ?_
      refine br_f (by decide) ?_
      refine br_t h1 ?_
      refine yy_bd _ a ha ?_
      refine br_t rfl ?_
      exact br_t h1 ⟨rfl, I⟩
    · by_cases h2 : v2 ≤ 200
      · obtain ⟨N, c1, c2, rfl⟩ := ww_rng 0 200 h1 h2 (by decide) (by decide)
        refine xx_au a ha ?_
        refine br_f (by decide) ?_
        refine br_f h1 ?_
        refine br_t h2 ?_
        refine xx_rs ha ok.1.2 ax _ _ _ (fun re hr => ?_)
        refine ⟨N + 1, ?_⟩
        refine xx_t30 ha ok ax _ N c2 N 0 B re _ (by omega) ok.2.1 hr (fun re1 rn1 => ?_)
        refine yy_bd _ a ha ?_
        refine br_t rfl ?_
        refine br_f h1 ?_
        refine br_t h2 ?_
        refine yy_begin ha ay _ _ _ (fun re2 hr2 => ?_)
        refine ⟨N + 1, ?_⟩
        exact yy_t31 ha ok ay _ N c2 N 0 B re2 _ (by omega) ok.2.1 hr2 (fun re3 rn3 => ⟨rfl, I⟩)
      · refine xx_au a ha ?_
        refine br_f (by decide) ?_
        refine br_f h1 ?_
        refine br_f h2 ?_
        refine yy_bd _ a ha ?_
        refine br_t rfl ?_
        refine br_f h1 ?_
        exact br_f h2 ⟨rfl, I⟩
theorem xx_f11 {post : Int32 → SX → Prop} {a n : Nat} {B E : Nat → Nat} {T : Nat → Nat → Nat → Nat} {sz st en tr : Nat → Int32} (ha : a < 3) (ok : ww_OK n B E T) (ax : ww_AX a n B E T sz st en tr) (g : Nat → Bool) (hg : ∀ c, g c = ww_ne (ww_wt B E T c) 0) (tb : Nat → Int32) : ∀ d i (re rn : Nat → Int32), i + d = 16 → 1 ≤ i → (∀ re' rn', post (nI (ww_ff g d i)) (sz, st, en, tr, re', rn', tb)) → wX_first_11 post (nI a) (d + 1) (nI i) sz st en tr re rn tb := by
  intro d
  induction d with
  | zero =>
    intro i re rn hi h1 H
    exact pk_lt 15 i (fun _ => H re rn) (fun h => by omega)
  | succ d ih =>
    intro i re rn hi h1 H
    refine pk_lt 15 i (fun h => by omega) (fun h => ?_)
    refine xx_wo ha ok ax re rn tb i h1 (by omega) (fun re2 rn2 => ?_)
    have l1 := ww_wt_lt B E T i
    refine pk_eq (ww_wt B E T i) 0 (fun e => nm_r (nI_1 i) (ih (i + 1) re2 rn2 (by omega) (by omega) ?_)) (fun e => ?_)
    · intro re' rn'
      have := H re' rn'
      rw [ww_ff_f ((hg i).trans (ww_ne_f e))] at this
      exact this
    · have := H re2 rn2
      rw [ww_ff_t ((hg i).trans (ww_ne_t e))] at this
      exact this
theorem yy_f12 {post : Int32 → SY → Prop} {a n : Nat} {B E : Nat → Nat} {T : Nat → Nat → Nat → Nat} {sz st en tr : Nat → Int32} (ha : a < 3) (ok : ww_OK n B E T) (ay : ww_AY a n B E T sz st en tr) (g : Nat → Bool) (hg : ∀ c, g c = ww_ne (ww_wt B E T c) 0) (tb : Nat → Int32) : ∀ d i (re rn : Nat → Int32), i + d = 256 → 1 ≤ i → (∀ re' rn', post (nI (ww_ff g d i)) (sz, st, en, tr, re', rn', tb)) → wY_first_12 post (nI a) (d + 1) (nI i) sz st en tr re rn tb := by
  intro d
  induction d with
  | zero =>
    intro i re rn hi h1 H
    exact pk_le 256 i (fun _ => H re rn) (fun h => by omega)
  | succ d ih =>
    intro i re rn hi h1 H
    refine pk_le 256 i (fun h => by omega) (fun h => ?_)
    refine yy_wo ha ok ay re rn tb i h1 (by omega) (fun re2 rn2 => ?_)
    have l1 := ww_wt_lt B E T i
    refine pk_eq (ww_wt B E T i) 0 (fun e => nm_r (nI_1 i) (ih (i + 1) re2 rn2 (by omega) (by omega) ?_)) (fun e => ?_)
    · intro re' rn'
      have := H re' rn'
      rw [ww_ff_f ((hg i).trans (ww_ne_f e))] at this
      exact this
    · have := H re2 rn2
      rw [ww_ff_t ((hg i).trans (ww_ne_t e))] at this
      exact this
theorem ww_first (B E : Nat → Nat) (T : Nat → Nat → Nat → Nat) : ww_ff (fun c => ww_ne (ww_wt B E T c) 0) 15 1 = ww_ff (fun c => ww_ne (ww_wt B E T c) 0) 255 1 := by
  refine ww_ff_more 240 15 1 (fun H c hc => ww_ne_f (ww_van (fun c' h1 h2 => ?_) c))
  have := H c' h1 (by omega)
  apply Classical.byContradiction
  intro hn
  rw [ww_ne_t hn] at this
  exact absurd this (by decide)
theorem i_vc_first {k : Nat} {u : SX} {v : SY} (I : i_Rel k u v) (hk : k + 5 ≤ 2560) (v1 : Int32) : wpX_first (fun r u' => wpY_first (fun r' v' => r' = r ∧ i_Rel (k + 5) u' v') v v1) u v1 := by
  obtain ⟨xs, xb, xe, xt, xr, xn, xg⟩ := u
  obtain ⟨ys, yb, ye, yt, yr, yn, yg⟩ := v
  unfold wpX_first wpY_first
  dsimp only
  rcases ww_cs v1 with h | ⟨a, ha, rfl⟩
  · refine xx_auB _ h ?_
    refine br_t rfl ?_
    refine yy_bdB _ _ h ?_
    exact br_f (by decide) ⟨rfl, I⟩
  · obtain ⟨n, B, E, T, ok, ax, ay⟩ := I a ha
    refine xx_au a ha ?_
    refine br_f (by decide) ?_
    refine ⟨16, ?_⟩
    refine xx_f11 ha ok ax _ (fun _ => rfl) _ 15 1 _ _ (by omega) (by omega) (fun re rn => ?_)
    refine yy_bd _ a ha ?_
    refine br_t rfl ?_
    refine ⟨256, ?_⟩
    exact yy_f12 ha ok ay _ (fun _ => rfl) _ 255 1 _ _ (by omega) (by omega) (fun re' rn' => ⟨congrArg nI (ww_first B E T).symm, I⟩)
section
variable {a b c n m l : Nat} {B E B1 E1 B2 E2 : Nat → Nat} {T T1 T2 : Nat → Nat → Nat → Nat} {sz st en tr : Nat → Int32}
theorem xx_is {post : Int32 → SX → Prop} (ha : a < 3) (hb : b < 3) (hc : c < 3) (ok : ww_OK n B E T) (ax : ww_AX a n B E T sz st en tr) (ok1 : ww_OK m B1 E1 T1) (ax1 : ww_AX b m B1 E1 T1 sz st en tr) (ok2 : ww_OK l B2 E2 T2) (ax2 : ww_AX c l B2 E2 T2 sz st en tr) (g : Nat → Bool) (hg : ∀ c, g c = ww_ne ((ww_wt B E T c + ww_wt B1 E1 T1 c) % 997) (ww_wt B2 E2 T2 c)) (tb : Nat → Int32) : ∀ d i (re rn : Nat → Int32), i + d = 4096 → 1 ≤ i → (∀ re' rn', post (nI (ww_al g d i)) (sz, st, en, tr, re', rn', tb)) → wX_isSum_26 post (nI a) (nI b) (nI c) (d + 1) (nI i) sz st en tr re rn tb := by
  intro d
  induction d with
  | zero =>
    intro i re rn hi h1 H
    exact pk_lt 4095 i (fun _ => H re rn) (fun h => by omega)
  | succ d ih =>
    intro i re rn hi h1 H
    refine pk_lt 4095 i (fun h => by omega) (fun h => ?_)
    refine xx_wo ha ok ax re rn tb i h1 (by omega) (fun re1 rn1 => ?_)
    refine xx_wo hb ok1 ax1 re1 rn1 tb i h1 (by omega) (fun re2 rn2 => ?_)
    have l1 := ww_wt_lt B E T i
    have l2 := ww_wt_lt B1 E1 T1 i
    have l3 := ww_wt_lt B2 E2 T2 i
    refine nm_r (nI_add _ _) (xx_resN _ (by omega) ?_)
    refine xx_wo hc ok2 ax2 re2 rn2 tb i h1 (by omega) (fun re3 rn3 => ?_)
    refine pk_eq ((ww_wt B E T i + ww_wt B1 E1 T1 i) % 997) (ww_wt B2 E2 T2 i) (fun e => nm_r (nI_1 i) (ih (i + 1) re3 rn3 (by omega) (by omega) ?_)) (fun e => ?_)
    · intro re' rn'
      have := H re' rn'
      rw [ww_al_f ((hg i).trans (ww_ne_f e))] at this
      exact this
    · have := H re3 rn3
      rw [ww_al_t ((hg i).trans (ww_ne_t e))] at this
      exact this
theorem yy_is {post : Int32 → SY → Prop} (ha : a < 3) (hb : b < 3) (hc : c < 3) (ok : ww_OK n B E T) (ax : ww_AY a n B E T sz st en tr) (ok1 : ww_OK m B1 E1 T1) (ax1 : ww_AY b m B1 E1 T1 sz st en tr) (ok2 : ww_OK l B2 E2 T2) (ax2 : ww_AY c l B2 E2 T2 sz st en tr) (g : Nat → Bool) (hg : ∀ c, g c = ww_ne ((ww_wt B E T c + ww_wt B1 E1 T1 c) % 997) (ww_wt B2 E2 T2 c)) (tb : Nat → Int32) : ∀ d i (re rn : Nat → Int32), i + d = 4096 → 1 ≤ i → (∀ re' rn', post (nI (ww_al g d i)) (sz, st, en, tr, re', rn', tb)) → wY_isSum_29 post (nI a) (nI b) (nI c) (d + 1) (nI i) sz st en tr re rn tb := by
  intro d
  induction d with
  | zero =>
    intro i re rn hi h1 H
    exact pk_le 4096 i (fun _ => H re rn) (fun h => by omega)
  | succ d ih =>
    intro i re rn hi h1 H
    refine pk_le 4096 i (fun h => by omega) (fun h => ?_)
    refine yy_wo ha ok ax re rn tb i h1 (by omega) (fun re1 rn1 => ?_)
    refine yy_wo hb ok1 ax1 re1 rn1 tb i h1 (by omega) (fun re2 rn2 => ?_)
    have l1 := ww_wt_lt B E T i
    have l2 := ww_wt_lt B1 E1 T1 i
    have l3 := ww_wt_lt B2 E2 T2 i
    refine yy_wo hc ok2 ax2 re2 rn2 tb i h1 (by omega) (fun re3 rn3 => ⟨ww_ne997, ?_⟩)
    refine pk_eq ((ww_wt B E T i + ww_wt B1 E1 T1 i) % 997) (ww_wt B2 E2 T2 i) (fun e => nm_r (nI_1 i) (ih (i + 1) re3 rn3 (by omega) (by omega) ?_)) (fun e => ?_) (hx := by rw [nI_add, ww_rem _ (by omega)])
    · intro re' rn'
      have := H re' rn'
      rw [ww_al_f ((hg i).trans (ww_ne_f e))] at this
      exact this
    · have := H re3 rn3
      rw [ww_al_t ((hg i).trans (ww_ne_t e))] at this
      exact this
end
theorem i_vc_isSum {k : Nat} {u : SX} {v : SY} (I : i_Rel k u v) (hk : k + 5 ≤ 2560) (v1 : Int32) (v2 : Int32) (v3 : Int32) : wpX_isSum (fun r u' => wpY_isSum (fun r' v' => r' = r ∧ i_Rel (k + 5) u' v') v v1 v2 v3) u v1 v2 v3 := by
  obtain ⟨xs, xb, xe, xt, xr, xn, xg⟩ := u
  obtain ⟨ys, yb, ye, yt, yr, yn, yg⟩ := v
  unfold wpX_isSum wpY_isSum
  dsimp only
  rcases ww_cs v1 with h | ⟨a, ha, rfl⟩
  · refine xx_auB _ h ?_
    refine br_t rfl ?_
    refine yy_bdB _ _ h ?_
    exact br_f (by decide) ⟨rfl, I⟩
  rcases ww_cs v2 with h | ⟨b, hb, rfl⟩
  · refine xx_au a ha ?_
    refine br_f (by decide) ?_
    refine xx_auB _ h ?_
    refine br_t rfl ?_
    refine yy_bd _ a ha ?_
    refine br_t rfl ?_
    refine yy_bdB _ _ h ?_
    exact br_f (by decide) ⟨rfl, I⟩
  rcases ww_cs v3 with h | ⟨c, hc, rfl⟩
  · refine xx_au a ha ?_
    refine br_f (by decide) ?_
    refine xx_au b hb ?_
    refine br_f (by decide) ?_
    refine xx_auB _ h ?_
    refine br_t rfl ?_
    refine yy_bd _ a ha ?_
    refine br_t rfl ?_
    refine yy_bd _ b hb ?_
    refine br_t rfl ?_
    refine yy_bdB _ _ h ?_
    exact br_f (by decide) ⟨rfl, I⟩
  obtain ⟨n, B, E, T, ok, ax, ay⟩ := I a ha
  obtain ⟨m, B1, E1, T1, ok1, ax1, ay1⟩ := I b hb
  obtain ⟨l, B2, E2, T2, ok2, ax2, ay2⟩ := I c hc
  refine xx_au a ha ?_
  refine br_f (by decide) ?_
  refine xx_au b hb ?_
  refine br_f (by decide) ?_
  refine xx_au c hc ?_
  refine br_f (by decide) ?_
  refine ⟨4096, ?_⟩
  refine xx_is ha hb hc ok ax ok1 ax1 ok2 ax2 _ (fun _ => rfl) _ 4095 1 _ _ (by omega) (by omega) (fun re rn => ?_)
  refine yy_bd _ a ha ?_
  refine br_t rfl ?_
  refine yy_bd _ b hb ?_
  refine br_t rfl ?_
  refine yy_bd _ c hc ?_
  refine br_t rfl ?_
  refine ⟨4096, ?_⟩
  exact yy_is ha hb hc ok ay ok1 ay1 ok2 ay2 _ (fun _ => rfl) _ 4095 1 _ _ (by omega) (by omega) (fun re' rn' => ⟨rfl, I⟩)
end
section
/-! size, mark, step -/
theorem ww_mk {a : Nat} {xs xb xe xt ys yb ye yt xs' xb' xe' xt' ys' yb' ye' yt' : Nat → Int32} (I : ww_R xs xb xe xt ys yb ye yt) (hP : ww_P a xs' xb' xe' xt' ys' yb' ye' yt')
    (h1 : ∀ j, j ≠ a → xs' j = xs j) (h2 : ∀ j, j / 4 ≠ a → xb' j = xb j) (h3 : ∀ j, j / 4 ≠ a → xe' j = xe j) (h4 : ∀ j, j / 32 ≠ a → xt' j = xt j)
    (k1 : ∀ j, j ≠ a → ys' j = ys j) (k2 : ∀ j, j / 4 ≠ a → yb' j = yb j) (k3 : ∀ j, j / 4 ≠ a → ye' j = ye j) (k4 : ∀ j, j / 32 ≠ a → yt' j = yt j) : ww_R xs' xb' xe' xt' ys' yb' ye' yt' := by
  intro i hi
  by_cases e : i = a
  · rw [e]; exact hP
  · exact ww_Pf (I i hi) (h1 i e) (fun j z => h2 j (by omega)) (fun j z => h3 j (by omega)) (fun j z => h4 j (by omega)) (k1 i e) (fun j z => k2 j (by omega)) (fun j z => k3 j (by omega)) (fun j z => k4 j (by omega))
theorem xx_clear {post : SX → Prop} {a : Nat} (ha : a < 3) (sz st en tr re rn tb : Nat → Int32) (H : ∀ st' en' tr', ww_W (fun j => j / 4 = a) (fun _ => 0) st st' → ww_W (fun j => j / 4 = a) (fun _ => 0) en en' → ww_W (fun j => j / 32 = a) (fun _ => 0) tr tr' → post (sz, st', en', tr', re, rn, tb)) : wpX_clearNumbers post (sz, st, en, tr, re, rn, tb) (nI a) := by
  have k2 : ∀ st' en', ww_W (fun j => j / 4 = a) (fun _ => 0) st st' → ww_W (fun j => j / 4 = a) (fun _ => 0) en en' → ∀ d i tr', i + d = 32 → ww_W (fun j => j / 32 = a ∧ j % 32 < i) (fun _ => 0) tr tr' → wX_clearNumbers_35 post (nI a) (d + 1) (nI i) sz st' en' tr' re rn tb := by
    intro st' en' hs he d
    induction d with
    | zero =>
      intro i tr' hi hw
      exact pk_le 32 i (fun _ => H st' en' tr' hs he (ww_Wi hw (fun j => by omega))) (fun h => by omega)
    | succ d ih =>
      intro i tr' hi hw
      refine pk_le 32 i (fun h => by omega) (fun h => ?_)
      exact ww_put (32 * a + i) (ix_32 a i) (by omega) (by decide) (nm_r (nI_1 i) (ih (i + 1) _ (by omega) (ww_W1 hw rfl (fun j => by omega))))
  have k1 : ∀ d i st' en', i + d = 4 → ww_W (fun j => j / 4 = a ∧ j % 4 < i) (fun _ => 0) st st' → ww_W (fun j => j / 4 = a ∧ j % 4 < i) (fun _ => 0) en en' → wX_clearNumbers_2 post (nI a) (d + 1) (nI i) sz st' en' tr re rn tb := by
    intro d
    induction d with
    | zero =>
      intro i st' en' hi hs he
      exact pk_le 4 i (fun _ => ⟨33, k2 st' en' (ww_Wi hs (fun j => by omega)) (ww_Wi he (fun j => by omega)) 32 0 tr (by omega) (ww_W0 (fun j => by omega))⟩) (fun h => by omega)
    | succ d ih =>
      intro i st' en' hi hs he
      refine pk_le 4 i (fun h => by omega) (fun h => ?_)
      refine xx_sc a i ?_
      exact ww_put (4 * a + i) rfl (by omega) (by decide) (ww_put (4 * a + i) rfl (by omega) (by decide) (nm_r (nI_1 i) (ih (i + 1) _ _ (by omega) (ww_W1 hs rfl (fun j => by omega)) (ww_W1 he rfl (fun j => by omega)))))
  exact ⟨5, k1 4 0 st en (by omega) (ww_W0 (fun j => by omega)) (ww_W0 (fun j => by omega))⟩
theorem yy_size {post : Int32 → SY → Prop} {a n m : Nat} (ha : a < 3) (sz st en tr re rn tb : Nat → Int32) (hs : sz a = nI n) (h1 : 1 ≤ m) (h4 : m ≤ 4) (H : ∀ st' en' tr', ww_W (fun j => j / 4 = a) (fun _ => 0) st st' → ww_W (fun j => j / 4 = a) (fun _ => 0) en en' → ww_W (fun j => j / 32 = a) (fun _ => 0) tr tr' → post (nI n) (upd sz a (nI m), st', en', tr', re, rn, tb)) : wpY_size post (sz, st, en, tr, re, rn, tb) (nI a) (nI m) := by
  have k2 : ∀ st' en', ww_W (fun j => j / 4 = a) (fun _ => 0) st st' → ww_W (fun j => j / 4 = a) (fun _ => 0) en en' → ∀ d i tr', i + d = 32 → ww_W (fun j => j / 32 = a ∧ j % 32 < i) (fun _ => 0) tr tr' → wY_size_79 post (nI a) (nI n) (d + 1) (nI i) (upd sz a (nI m)) st' en' tr' re rn tb := by
    intro st' en' hs he d
    induction d with
    | zero =>
      intro i tr' hi hw
      exact pk_le 32 i (fun _ => H st' en' tr' hs he (ww_Wi hw (fun j => by omega))) (fun h => by omega)
    | succ d ih =>
      intro i tr' hi hw
      refine pk_le 32 i (fun h => by omega) (fun h => ?_)
      exact ww_put (32 * a + i) (ix_32 a i) (by omega) (by decide) (nm_r (nI_1 i) (ih (i + 1) _ (by omega) (ww_W1 hw rfl (fun j => by omega))))
  have k1 : ∀ d i st' en', i + d = 4 → ww_W (fun j => j / 4 = a ∧ j % 4 < i) (fun _ => 0) st st' → ww_W (fun j => j / 4 = a ∧ j % 4 < i) (fun _ => 0) en en' → wY_size_40 post (nI a) (nI n) (d + 1) (nI i) (upd sz a (nI m)) st' en' tr re rn tb := by
    intro d
    induction d with
    | zero =>
      intro i st' en' hi hs he
      exact pk_le 4 i (fun _ => ⟨33, k2 st' en' (ww_Wi hs (fun j => by omega)) (ww_Wi he (fun j => by omega)) 32 0 tr (by omega) (ww_W0 (fun j => by omega))⟩) (fun h => by omega)
    | succ d ih =>
      intro i st' en' hi hs he
      refine pk_le 4 i (fun h => by omega) (fun h => ?_)
      exact ww_put (4 * a + i) (ix_4 a i) (by omega) (by decide) (ww_put (4 * a + i) (ix_4 a i) (by omega) (by decide) (nm_r (nI_1 i) (ih (i + 1) _ _ (by omega) (ww_W1 hs rfl (fun j => by omega)) (ww_W1 he rfl (fun j => by omega)))))
  unfold wpY_size
  dsimp only
  refine yy_bd _ a ha ?_
  refine br_t rfl (br_f (nI_nlt (b := 1) h1 (by omega)) (br_t (nI_le (b := 4) h4 (by decide)) ⟨ww_a3 a ha, nm_r (ww_rd a rfl (by omega) hs) ?_⟩))
  exact ww_put a rfl ha (by decide) ⟨5, k1 4 0 st en (by omega) (ww_W0 (fun j => by omega)) (ww_W0 (fun j => by omega))⟩
theorem ww_un {f : Nat → Int32} {a : Nat} {x : Int32} : ∀ j, j ≠ a → upd f a x j = f j := fun _ h => pk_un h
theorem ww_blank {m : Nat} (h1 : 1 ≤ m) (h4 : m ≤ 4) : ww_OK m (fun _ => 0) (fun _ => 0) (fun _ _ _ => 0) :=
  ⟨⟨h1, h4⟩, fun _ => (by decide : (0 : Nat) < 997), fun _ _ => rfl, fun _ => (by decide : (0 : Nat) < 997), fun _ _ => rfl, fun _ _ _ => (by decide : (0 : Nat) < 997), fun _ _ _ _ => rfl⟩
theorem i_vc_size {k : Nat} {u : SX} {v : SY} (I : i_Rel k u v) (hk : k + 5 ≤ 2560) (v1 : Int32) (v2 : Int32) : wpX_size (fun r u' => wpY_size (fun r' v' => r' = r ∧ i_Rel (k + 5) u' v') v v1 v2) u v1 v2 := by
  obtain ⟨xs, xb, xe, xt, xr, xn, xg⟩ := u
  obtain ⟨ys, yb, ye, yt, yr, yn, yg⟩ := v
  rcases ww_cs v1 with h | ⟨a, ha, rfl⟩
  · unfold wpX_size wpY_size
    dsimp only
    refine xx_auB _ h ?_
    refine br_t rfl ?_
    refine yy_bdB _ _ h ?_
    exact br_f (by decide) ⟨rfl, I⟩
  · by_cases h1 : v2 < 1
    · unfold wpX_size wpY_size
      dsimp only
      refine xx_au a ha ?_
      refine br_f (by decide) ?_
      refine br_t h1 ?_
      refine yy_bd _ a ha ?_
      refine br_t rfl ?_
      exact br_t h1 ⟨rfl, I⟩
    · by_cases h2 : v2 ≤ 4
      · obtain ⟨m, c1, c2, rfl⟩ := ww_rng 1 4 h1 h2 (by decide) (by decide)
        obtain ⟨n, B, E, T, ok, ax, ay⟩ := I a ha
        unfold wpX_size
        dsimp only
        refine xx_au a ha ?_
        refine br_f (by decide) ?_
        refine br_f h1 ?_
        refine br_t h2 ?_
        refine ⟨ww_a3 a ha, nm_r (ww_rd a rfl (by omega) ax.1) ?_⟩
        refine ww_put a rfl ha (by decide) ?_
        refine xx_clear ha _ _ _ _ _ _ _ (fun st' en' tr' w1 w2 w3 => ?_)
        refine yy_size ha _ _ _ _ _ _ _ ay.1 c1 c2 (fun st'' en'' tr'' z1 z2 z3 => ⟨rfl, ?_⟩)
        refine ww_mk I ⟨m, fun _ => 0, fun _ => 0, fun _ _ _ => 0, ww_blank c1 c2, ⟨pk_us, fun q hq => (w1 _).1 (by omega), fun q hq => (w2 _).1 (by omega), fun c p q _ _ _ => (w3 _).1 (by omega)⟩, ⟨pk_us, fun q hq => (z1 _).1 (by omega), fun q hq => (z2 _).1 (by omega), fun c p q _ _ _ => (z3 _).1 (by omega)⟩⟩ ww_un (fun j hj => (w1 j).2 hj) (fun j hj => (w2 j).2 hj) (fun j hj => (w3 j).2 hj) ww_un (fun j hj => (z1 j).2 hj) (fun j hj => (z2 j).2 hj) (fun j hj => (z3 j).2 hj)
      · unfold wpX_size wpY_size
        dsimp only
        refine xx_au a ha ?_
        refine br_f (by decide) ?_
        refine br_f h1 ?_
        refine br_f h2 ?_
        refine yy_bd _ a ha ?_
        refine br_t rfl ?_
        refine br_f h1 ?_
        exact br_f h2 ⟨rfl, I⟩
/-- good states -/
theorem xx_isB {post : Int32 → Prop} {a n : Nat} {sz st en tr re rn tb : Nat → Int32} (ha : a < 3) (hs : sz a = nI n) (x : Int32) (hx : x < 0 ∨ nI n ≤ x) (h : post 0) : wpX_isState post (sz, st, en, tr, re, rn, tb) (nI a) x := by
  refine br_c (fun _ => h) (fun z => ⟨ww_a3 a ha, ?_⟩)
  rw [ww_rd a rfl (by omega) hs]
  exact br_c (fun _ => h) (fun z2 => (hx.elim (fun q => z q) (fun q => z2 q)).elim)
theorem xx_is1 {post : Int32 → Prop} {a n : Nat} {sz st en tr re rn tb : Nat → Int32} (ha : a < 3) (hs : sz a = nI n) (hn : n ≤ 4) (q : Nat) (hq : q < n) (h : post 1) : wpX_isState post (sz, st, en, tr, re, rn, tb) (nI a) (nI q) := by
  refine br_f (nI_pos (by omega)) ⟨ww_a3 a ha, ?_⟩
  rw [ww_rd a rfl (by omega) hs]
  exact br_f (nI_ge hq (by omega)) h
theorem yy_bsB {post : Int32 → Prop} {a n : Nat} {sz st en tr re rn tb : Nat → Int32} (ha : a < 3) (hs : sz a = nI n) (x : Int32) (hx : x < 0 ∨ nI n ≤ x) (h : post 1) : wpY_badState post (sz, st, en, tr, re, rn, tb) (nI a) x := by
  refine br_c (fun _ => h) (fun z => ⟨ww_a3 a ha, ?_⟩)
  rw [ww_rd a rfl (by omega) hs]
  exact br_c (fun _ => h) (fun z2 => (hx.elim (fun q => z q) (fun q => z2 q)).elim)
theorem yy_bs {post : Int32 → Prop} {a n : Nat} {sz st en tr re rn tb : Nat → Int32} (ha : a < 3) (hs : sz a = nI n) (hn : n ≤ 4) (q : Nat) (hq : q < n) (h : post 0) : wpY_badState post (sz, st, en, tr, re, rn, tb) (nI a) (nI q) := by
  refine br_f (nI_pos (by omega)) ⟨ww_a3 a ha, ?_⟩
  rw [ww_rd a rfl (by omega) hs]
  exact br_f (nI_ge hq (by omega)) (br_t (nI_le (b := 3) (by omega) (by decide)) h)
theorem ww_cn (x : Int32) {n : Nat} (hn : n ≤ 4) : (x < 0 ∨ nI n ≤ x) ∨ ∃ q : Nat, q < n ∧ x = nI q := by
  rcases pk_ix x (n := n) (by omega) with h | h | h
  · exact Or.inl (Or.inl h)
  · exact Or.inl (Or.inr h)
  · exact Or.inr h
theorem ww_u1 {f : Nat → Int32} {B : Nat → Nat} {a q w n : Nat} (h : ∀ q, q < n → f (4 * a + q) = nI (B q)) : ∀ q', q' < n → upd f (4 * a + q) (nI w) (4 * a + q') = nI ((fun q' => if q' = q then w else B q') q') := by
  intro q' hq'
  by_cases e : q' = q
  · subst e
    simp [pk_us]
  · rw [pk_un (by omega), h q' hq']
    simp [e]
theorem ww_uf {f : Nat → Int32} {a q : Nat} {x : Int32} (hq : q < 4) : ∀ j, j / 4 ≠ a → upd f (4 * a + q) x j = f j := fun j hj => pk_un (by omega)
theorem ww_if {B : Nat → Nat} {q w n : Nat} (hw : w < 997) (hB : ∀ q, B q < 997) (hz : ∀ q, n ≤ q → B q = 0) (hq : q < n) : (∀ q', (fun q' => if q' = q then w else B q') q' < 997) ∧ (∀ q', n ≤ q' → (fun q' => if q' = q then w else B q') q' = 0) := by
  refine ⟨fun q' => ?_, fun q' hq' => ?_⟩
  · show (if q' = q then w else B q') < 997
    split
    · exact hw
    · exact hB q'
  · show (if q' = q then w else B q') = 0
    rw [if_neg (by omega)]
    exact hz q' hq'
theorem i_vc_mark {k : Nat} {u : SX} {v : SY} (I : i_Rel k u v) (hk : k + 5 ≤ 2560) (v1 : Int32) (v2 : Int32) (v3 : Int32) (v4 : Int32) : wpX_mark (fun r u' => wpY_mark (fun r' v' => r' = r ∧ i_Rel (k + 5) u' v') v v1 v2 v3 v4) u v1 v2 v3 v4 := by
  obtain ⟨xs, xb, xe, xt, xr, xn, xg⟩ := u
  obtain ⟨ys, yb, ye, yt, yr, yn, yg⟩ := v
  unfold wpX_mark wpY_mark
  dsimp only
  rcases ww_cs v1 with h | ⟨a, ha, rfl⟩
  · refine xx_auB _ h ?_
    refine br_t rfl ?_
    refine yy_bdB _ _ h ?_
    exact br_f (by decide) ⟨rfl, I⟩
  obtain ⟨n, B, E, T, ok, ax, ay⟩ := I a ha
  rcases ww_cn v2 ok.1.2 with h | ⟨q, hq, rfl⟩
  · refine xx_au a ha ?_
    refine br_f (by decide) ?_
    refine xx_isB ha ax.1 _ h ?_
    refine br_t rfl ?_
    refine yy_bd _ a ha ?_
    refine br_t rfl ?_
    refine yy_bsB ha ay.1 _ h ?_
    exact br_f (by decide) ⟨rfl, I⟩
  obtain ⟨p1, p2, p3, p4⟩ := ax
  obtain ⟨r1, r2, r3, r4⟩ := ay
  obtain ⟨⟨o1, o2⟩, o3, o4, o5, o6, o7, o8⟩ := ok
  have hw := ww_md_lt v4
  by_cases h0 : v3 = 0
  · refine xx_au a ha ?_
    refine br_f (by decide) ?_
    refine xx_is1 ha p1 o2 q hq ?_
    refine br_f (by decide) ?_
    refine xx_sc a q ?_
    refine br_t h0 ?_
    refine ⟨vp_in_nI (by omega) (by decide), nm_r (ww_rd (4 * a + q) rfl (by omega) (p2 q hq)) ?_⟩
    refine xx_residue v4 ?_
    refine ww_put (4 * a + q) rfl (by omega) (by decide) ?_
    refine yy_bd _ a ha ?_
    refine br_t rfl ?_
    refine yy_bs ha r1 o2 q hq ?_
    refine br_t rfl ?_
    refine nm_r (ix_4 a q) ?_
    refine br_t h0 ?_
    refine ⟨vp_in_nI (by omega) (by decide), ?_⟩
    refine br_t h0 ?_
    refine yy_reduced _ v4 ?_
    refine ww_put (4 * a + q) rfl (by omega) (by decide) ?_
    refine ⟨ww_rd (4 * a + q) rfl (by omega) (r2 q (by omega)), ?_⟩
    have hi := ww_if hw o3 o4 hq
    exact ww_mk I ⟨n, _, E, T, ⟨⟨o1, o2⟩, hi.1, hi.2, o5, o6, o7, o8⟩, ⟨p1, ww_u1 p2, p3, p4⟩, ⟨r1, ww_u1 r2, r3, r4⟩⟩ (fun _ _ => rfl) (ww_uf (by omega)) (fun _ _ => rfl) (fun _ _ => rfl) (fun _ _ => rfl) (ww_uf (by omega)) (fun _ _ => rfl) (fun _ _ => rfl)
  · refine xx_au a ha ?_
    refine br_f (by decide) ?_
    refine xx_is1 ha p1 o2 q hq ?_
    refine br_f (by decide) ?_
    refine xx_sc a q ?_
    refine br_f h0 ?_
    refine ⟨vp_in_nI (by omega) (by decide), nm_r (ww_rd (4 * a + q) rfl (by omega) (p3 q hq)) ?_⟩
    refine xx_residue v4 ?_
    refine ww_put (4 * a + q) rfl (by omega) (by decide) ?_
    refine yy_bd _ a ha ?_
    refine br_t rfl ?_
    refine yy_bs ha r1 o2 q hq ?_
    refine br_t rfl ?_
    refine nm_r (ix_4 a q) ?_
    refine br_f h0 ?_
    refine ⟨vp_in_nI (by omega) (by decide), ?_⟩
    refine br_f h0 ?_
    refine yy_reduced _ v4 ?_
    refine ww_put (4 * a + q) rfl (by omega) (by decide) ?_
    refine ⟨ww_rd (4 * a + q) rfl (by omega) (r3 q (by omega)), ?_⟩
    have hi := ww_if hw o5 o6 hq
    exact ww_mk I ⟨n, B, _, T, ⟨⟨o1, o2⟩, o3, o4, hi.1, hi.2, o7, o8⟩, ⟨p1, p2, ww_u1 p3, p4⟩, ⟨r1, r2, ww_u1 r3, r4⟩⟩ (fun _ _ => rfl) (fun _ _ => rfl) (ww_uf (by omega)) (fun _ _ => rfl) (fun _ _ => rfl) (fun _ _ => rfl) (ww_uf (by omega)) (fun _ _ => rfl)
end
section
/-! step -/
theorem ww_p (j : Nat) (hj : j < 32) : (nI j >>> ((2 : Int32) &&& 31)) &&& 3 = nI (j / 4 % 4) := by
  rw [pk_shrN (by omega) _ 2 (by decide), pk_andN (by omega) 2 (by decide)]
theorem ww_q (j : Nat) (hj : j < 32) : nI j &&& 3 = nI (j % 4) := pk_andN (by omega) 2 (by decide)
theorem ww_pY (j : Nat) (hj : j < 32) : nI j / 4 - nI j / 4 / 4 * 4 = nI (j / 4 % 4) := by
  have e : nI j / 4 = nI (j / 4) := pk_div (d := 4) (by omega) (by decide) (by decide)
  rw [e]
  exact pk_rem (d := 4) (by omega) (by decide) (by decide)
theorem ww_qY (j : Nat) (hj : j < 2 ^ 31) : nI j - nI j / 4 * 4 = nI (j % 4) := pk_rem (d := 4) hj (by decide) (by decide)
theorem ww_dY (j : Nat) (hj : j < 2 ^ 31) : nI j / 4 = nI (j / 4) := pk_div (d := 4) hj (by decide) (by decide)
theorem xx_rtB {post : Int32 → Prop} {a n : Nat} {sz st en tr re rn tb : Nat → Int32} (ha : a < 3) (hs : sz a = nI n) (hn : n ≤ 4) (x : Int32) (hx : x < 0 ∨ nI 32 ≤ x ∨ ∃ j, j < 32 ∧ x = nI j ∧ ¬ (j / 4 % 4 < n ∧ j % 4 < n)) (h : post 0) : wpX_isRoute post (sz, st, en, tr, re, rn, tb) (nI a) x := by
  unfold wpX_isRoute
  dsimp only
  rcases hx with z | z | ⟨j, hj, rfl, hb⟩
  · exact br_t z h
  · exact br_c (fun _ => h) (fun _ => br_f (Int32.not_lt.mpr z) h)
  · refine br_f (nI_pos (by omega)) (br_t (nI_lt (b := 32) hj (by decide)) (nm_r (ww_p j hj) (nm_r (ww_q j hj) ?_)))
    by_cases h1 : j / 4 % 4 < n
    · refine xx_is1 ha hs hn _ h1 ?_
      refine br_f (by decide) ?_
      refine xx_isB ha hs _ (Or.inr (nI_le (by omega) (by omega))) ?_
      exact br_t rfl h
    · refine xx_isB ha hs _ (Or.inr (nI_le (by omega) (by omega))) ?_
      exact br_t rfl h
theorem xx_rt {post : Int32 → Prop} {a n : Nat} {sz st en tr re rn tb : Nat → Int32} (ha : a < 3) (hs : sz a = nI n) (hn : n ≤ 4) (j : Nat) (hj : j < 32) (h1 : j / 4 % 4 < n) (h2 : j % 4 < n) (h : post 1) : wpX_isRoute post (sz, st, en, tr, re, rn, tb) (nI a) (nI j) := by
  unfold wpX_isRoute
  dsimp only
  refine br_f (nI_pos (by omega)) (br_t (nI_lt (b := 32) hj (by decide)) (nm_r (ww_p j hj) (nm_r (ww_q j hj) ?_)))
  refine xx_is1 ha hs hn _ h1 ?_
  refine br_f (by decide) ?_
  refine xx_is1 ha hs hn _ h2 ?_
  exact br_f (by decide) h
theorem ww_tu {f : Nat → Int32} {T : Nat → Nat → Nat → Nat} {a j w n : Nat} (hj : j < 32) (hn : n ≤ 4) (h : ∀ c p q, c < 2 → p < n → q < n → f (32 * a + 16 * c + 4 * p + q) = nI (T c p q)) : ∀ c p q, c < 2 → p < n → q < n → upd f (32 * a + j) (nI w) (32 * a + 16 * c + 4 * p + q) = nI ((fun c p q => if c = j / 16 ∧ p = j / 4 % 4 ∧ q = j % 4 then w else T c p q) c p q) := by
  intro c p q hc hp hq
  by_cases e : c = j / 16 ∧ p = j / 4 % 4 ∧ q = j % 4
  · have e2 : 32 * a + 16 * c + 4 * p + q = 32 * a + j := by omega
    rw [e2, pk_us]
    simp [e]
  · rw [pk_un (by omega), h c p q hc hp hq]
    simp [e]
theorem i_vc_step {k : Nat} {u : SX} {v : SY} (I : i_Rel k u v) (hk : k + 5 ≤ 2560) (v1 : Int32) (v2 : Int32) (v3 : Int32) : wpX_step (fun r u' => wpY_step (fun r' v' => r' = r ∧ i_Rel (k + 5) u' v') v v1 v2 v3) u v1 v2 v3 := by
  obtain ⟨xs, xb, xe, xt, xr, xn, xg⟩ := u
  obtain ⟨ys, yb, ye, yt, yr, yn, yg⟩ := v
  unfold wpX_step wpY_step
  dsimp only
  have n4 : ¬ (4 : Int32) = 0 := by decide
  rcases ww_cs v1 with h | ⟨a, ha, rfl⟩
  · refine xx_auB _ h ?_
    refine br_t rfl ?_
    refine yy_bdB _ _ h ?_
    exact br_f (by decide) ⟨rfl, I⟩
  obtain ⟨n, B, E, T, ok, ax, ay⟩ := I a ha
  rcases pk_ix v2 (n := 32) (by decide) with h | h | ⟨j, hj, rfl⟩
  · refine xx_au a ha ?_
    refine br_f (by decide) ?_
    refine xx_rtB ha ax.1 ok.1.2 _ (Or.inl h) ?_
    refine br_t rfl ?_
    refine yy_bd _ a ha ?_
    refine br_t rfl ?_
    exact br_t h ⟨rfl, I⟩
  · have h31 : ¬ v2 ≤ 31 := by
      intro z
      have z2 : nI 32 ≤ nI 31 := Int32.le_trans h z
      rw [nI_leI (by decide) (by decide)] at z2
      omega
    refine xx_au a ha ?_
    refine br_f (by decide) ?_
    refine xx_rtB ha ax.1 ok.1.2 _ (Or.inr (Or.inl h)) ?_
    refine br_t rfl ?_
    refine yy_bd _ a ha ?_
    refine br_t rfl ?_
    exact br_c (fun _ => ⟨rfl, I⟩) (fun _ => br_f h31 ⟨rfl, I⟩)
  have g0 : ¬ nI j < 0 := nI_pos (by omega)
  have g1 : nI j ≤ 31 := nI_le (b := 31) (by omega) (by decide)
  by_cases hg : j / 4 % 4 < n ∧ j % 4 < n
  · obtain ⟨p1, p2, p3, p4⟩ := ax
    obtain ⟨r1, r2, r3, r4⟩ := ay
    obtain ⟨⟨o1, o2⟩, o3, o4, o5, o6, o7, o8⟩ := ok
    obtain ⟨hp, hq⟩ := hg
    have hw := ww_md_lt v3
    have ej : 32 * a + 16 * (j / 16) + 4 * (j / 4 % 4) + j % 4 = 32 * a + j := by omega
    have x0 : xt (32 * a + j) = nI (T (j / 16) (j / 4 % 4) (j % 4)) := by
      have := p4 (j / 16) (j / 4 % 4) (j % 4) (by omega) hp hq
      rw [ej] at this
      exact this
    have y0 : yt (32 * a + j) = nI (T (j / 16) (j / 4 % 4) (j % 4)) := by
      have := r4 (j / 16) (j / 4 % 4) (j % 4) (by omega) (by omega) (by omega)
      rw [ej] at this
      exact this
    refine xx_au a ha ?_
    refine br_f (by decide) ?_
    refine xx_rt ha p1 o2 j hj hp hq ?_
    refine br_f (by decide) ?_
    refine nm_r (ix_32 a j) ?_
    refine ⟨vp_in_nI (by omega) (by decide), nm_r (ww_rd (32 * a + j) rfl (by omega) x0) ?_⟩
    refine xx_residue v3 ?_
    refine ww_put (32 * a + j) rfl (by omega) (by decide) ?_
    refine yy_bd _ a ha ?_
    refine br_t rfl ?_
    refine br_f g0 ?_
    refine br_t g1 ?_
    refine ⟨n4, n4, ?_⟩
    rw [ww_pY j hj, ww_qY j (by omega)]
    refine yy_bs ha r1 o2 _ hp ?_
    refine br_t rfl ?_
    refine ⟨n4, ?_⟩
    refine yy_bs ha r1 o2 _ hq ?_
    refine br_t rfl ?_
    refine ⟨pk_in (32 * a + j) 96 (by omega) (ix_32 a j), nm_r (ww_rd (32 * a + j) (ix_32 a j) (by omega) y0) ?_⟩
    refine yy_reduced _ v3 ?_
    refine ww_put (32 * a + j) (ix_32 a j) (by omega) (by decide) ?_
    refine ⟨rfl, ?_⟩
    refine ww_mk I ⟨n, B, E, fun c p q => if c = j / 16 ∧ p = j / 4 % 4 ∧ q = j % 4 then ww_md v3 else T c p q, ⟨⟨o1, o2⟩, o3, o4, o5, o6, fun c p q => ?_, fun c p q hpq => ?_⟩, ⟨p1, p2, p3, ww_tu hj o2 p4⟩, ⟨r1, r2, r3, ww_tu hj (by omega) r4⟩⟩ (fun _ _ => rfl) (fun _ _ => rfl) (fun _ _ => rfl) (fun i hi => pk_un (by omega)) (fun _ _ => rfl) (fun _ _ => rfl) (fun _ _ => rfl) (fun i hi => pk_un (by omega))
    · show (if c = j / 16 ∧ p = j / 4 % 4 ∧ q = j % 4 then ww_md v3 else T c p q) < 997
      split
      · exact hw
      · exact o7 c p q
    · show (if c = j / 16 ∧ p = j / 4 % 4 ∧ q = j % 4 then ww_md v3 else T c p q) = 0
      rw [if_neg (by omega)]
      exact o8 c p q hpq
  · have o2 := ok.1.2
    refine xx_au a ha ?_
    refine br_f (by decide) ?_
    refine xx_rtB ha ax.1 o2 _ (Or.inr (Or.inr ⟨j, hj, rfl, hg⟩)) ?_
    refine br_t rfl ?_
    refine yy_bd _ a ha ?_
    refine br_t rfl ?_
    refine br_f g0 ?_
    refine br_t g1 ?_
    refine ⟨n4, n4, ?_⟩
    rw [ww_pY j hj, ww_qY j (by omega)]
    by_cases h1 : j / 4 % 4 < n
    · refine yy_bs ha ay.1 o2 _ h1 ?_
      refine br_t rfl ?_
      refine ⟨n4, ?_⟩
      refine yy_bsB ha ay.1 _ (Or.inr (nI_le (by omega) (by omega))) ?_
      exact br_f (by decide) ⟨rfl, I⟩
    · refine yy_bsB ha ay.1 _ (Or.inr (nI_le (by omega) (by omega))) ?_
      exact br_f (by decide) ⟨rfl, I⟩
end
section
/-! weave -/
/-- the number that weave gives to a step -/
def ww_wv (s c p q : Nat) : Nat := if (p + 2 * q + c + s) % 3 = 0 then 0 else (s * (p + 1) + 3 * q + c * (p + q)) % 997
theorem ww_wv_lt (s c p q : Nat) : ww_wv s c p q < 997 := by
  unfold ww_wv
  split <;> omega
theorem ww_n1 (s c p q : Nat) : nI s * (nI p + 1) + 3 * nI q + nI c * (nI p + nI q) = nI (s * (p + 1) + 3 * q + c * (p + q)) := by
  show nI s * (nI p + 1) + nI 3 * nI q + nI c * (nI p + nI q) = _
  rw [nI_1, nI_add p q, pk_mul, pk_mul, pk_mul, nI_add, nI_add]
theorem ww_n2 (s c p q : Nat) : nI p + 2 * nI q + nI c + nI s = nI (p + 2 * q + c + s) := by
  show nI p + nI 2 * nI q + nI c + nI s = _
  rw [pk_mul, nI_add, nI_add, nI_add]
theorem ww_n3 (m : Nat) (h : m < 2 ^ 31) : nI m - nI m / 3 * 3 = nI (m % 3) := pk_rem (d := 3) h (by decide) (by decide)
theorem ww_n4 (s q : Nat) : (1 : Int32) + nI s * nI q = nI (1 + s * q) := by
  show nI 1 + nI s * nI q = _
  rw [pk_mul, nI_add]
theorem ww_b1 {s p q c : Nat} (hs : s < 997) (hp : p < 4) (hq : q < 4) (hc : c < 2) : s * (p + 1) + 3 * q + c * (p + q) < 10000 := by
  have h1 : s * (p + 1) ≤ 996 * 4 := Nat.mul_le_mul (by omega) (by omega)
  have h2 : c * (p + q) ≤ 1 * 6 := Nat.mul_le_mul (by omega) (by omega)
  omega
theorem ww_b2 {s q : Nat} (hs : s < 997) (hq : q < 4) : 1 + s * q < 10000 := by
  have h1 : s * q ≤ 996 * 3 := Nat.mul_le_mul (by omega) (by omega)
  omega
section
variable {a n s : Nat} {sz st en : Nat → Int32}
theorem xx_ws {post : SX → Prop} (ha : a < 3) (hs : s < 997) (hn : n ≤ 4) (hz : sz a = nI n) (tr re rn tb : Nat → Int32) (c : Nat) (hc : c < 2) (H : ∀ tr', ww_W (fun j => j / 32 = a ∧ j % 32 / 16 = c ∧ j % 16 / 4 < n ∧ j % 4 < n) (fun j => nI (ww_wv s (j % 32 / 16) (j % 16 / 4) (j % 4))) tr tr' → post (sz, st, en, tr', re, rn, tb)) : wpX_weaveSteps post (sz, st, en, tr, re, rn, tb) (nI a) (nI s) (nI c) := by
  have k2 : ∀ (J3 : Int32 → (Nat → Int32) → (Nat → Int32) → (Nat → Int32) → (Nat → Int32) → (Nat → Int32) → (Nat → Int32) → (Nat → Int32) → Prop) (p : Nat), p < n → ∀ tr0, (∀ tr', ww_W (fun j => j / 32 = a ∧ j % 32 / 16 = c ∧ j % 16 / 4 = p ∧ j % 4 < n) (fun j => nI (ww_wv s (j % 32 / 16) (j % 16 / 4) (j % 4))) tr0 tr' → J3 (nI (p + 1)) sz st en tr' re rn tb) → ∀ d i tr', i + d = n → ww_W (fun j => j / 32 = a ∧ j % 32 / 16 = c ∧ j % 16 / 4 = p ∧ j % 4 < i) (fun j => nI (ww_wv s (j % 32 / 16) (j % 16 / 4) (j % 4))) tr0 tr' → wX_weaveSteps_17 post J3 (nI a) (nI s) (nI c) (nI p) (d + 1) (nI i) sz st en tr' re rn tb := by
    intro J3 p hp tr0 HJ d
    induction d with
    | zero =>
      intro i tr' hi hw
      exact ⟨ww_a3 a ha, pk_le n i (fun _ => nm_r (nI_1 p) (HJ tr' (ww_Wi hw (fun j => by omega)))) (fun h => by omega) (hx := ww_rd a rfl (by omega) hz)⟩
    | succ d ih =>
      intro i tr' hi hw
      have b1 := ww_b1 hs (show p < 4 by omega) (show i < 4 by omega) hc
      refine ⟨ww_a3 a ha, pk_le n i (fun h => by omega) (fun h => ?_) (hx := ww_rd a rfl (by omega) hz)⟩
      refine nm_r (ww_n1 s c p i) ⟨by decide, ?_⟩
      have e1 : (32 * a + 16 * c + 4 * p + i) % 32 / 16 = c := by omega
      have e2 : (32 * a + 16 * c + 4 * p + i) % 16 / 4 = p := by omega
      have e3 : (32 * a + 16 * c + 4 * p + i) % 4 = i := by omega
      refine pk_eq ((p + 2 * i + c + s) % 3) 0 (fun z => ?_) (fun z => ?_) (hx := by rw [ww_n2, ww_n3 _ (by omega)])
      · refine xx_st a c p i ?_
        refine br_f (by decide) ?_
        refine ww_put (32 * a + 16 * c + 4 * p + i) rfl (by omega) (by decide) (nm_r (nI_1 i) (ih (i + 1) _ (by omega) (ww_W1 hw ?_ (fun j => by omega))))
        show (0 : Int32) = nI (ww_wv s _ _ _)
        rw [e1, e2, e3]
        unfold ww_wv
        rw [if_pos z]
        rfl
      · refine xx_st a c p i ?_
        refine br_t rfl ?_
        refine xx_resN _ (by omega) ?_
        refine ww_put (32 * a + 16 * c + 4 * p + i) rfl (by omega) (by decide) (nm_r (nI_1 i) (ih (i + 1) _ (by omega) (ww_W1 hw ?_ (fun j => by omega))))
        show _ = nI (ww_wv s _ _ _)
        rw [e1, e2, e3]
        unfold ww_wv
        rw [if_neg z]
  have k1 : ∀ d i tr', i + d = n → ww_W (fun j => j / 32 = a ∧ j % 32 / 16 = c ∧ j % 16 / 4 < i ∧ j % 4 < n) (fun j => nI (ww_wv s (j % 32 / 16) (j % 16 / 4) (j % 4))) tr tr' → wX_weaveSteps_3 post (nI a) (nI s) (nI c) (d + 1) (nI i) sz st en tr' re rn tb := by
    intro d
    induction d with
    | zero =>
      intro i tr' hi hw
      exact ⟨ww_a3 a ha, pk_le n i (fun _ => H tr' (ww_Wi hw (fun j => by omega))) (fun h => by omega) (hx := ww_rd a rfl (by omega) hz)⟩
    | succ d ih =>
      intro i tr' hi hw
      refine ⟨ww_a3 a ha, pk_le n i (fun h => by omega) (fun h => ⟨n + 1, ?_⟩) (hx := ww_rd a rfl (by omega) hz)⟩
      refine k2 _ i h tr' (fun tr2 hw2 => ih (i + 1) tr2 (by omega) (ww_WW hw hw2 (fun j => by omega))) n 0 tr' (by omega) (ww_W0 (fun j => by omega))
  exact ⟨n + 1, k1 n 0 tr (by omega) (ww_W0 (fun j => by omega))⟩
theorem xx_wv {post : Int32 → SX → Prop} (ha : a < 3) (hs : s < 997) (hn : n ≤ 4) (hz : sz a = nI n) (st en tr re rn tb : Nat → Int32) (H : ∀ st' en' tr', ww_W (fun j => j / 4 = a ∧ j % 4 < n) (fun j => nI ((s + j % 4) % 997)) st st' → ww_W (fun j => j / 4 = a ∧ j % 4 < n) (fun j => nI ((1 + s * (j % 4)) % 997)) en en' → ww_W (fun j => j / 32 = a ∧ j % 16 / 4 < n ∧ j % 4 < n) (fun j => nI (ww_wv s (j % 32 / 16) (j % 16 / 4) (j % 4))) tr tr' → post 0 (sz, st', en', tr', re, rn, tb)) : ∃ n25, wX_weave_25 post (nI a) (nI s) n25 0 sz st en tr re rn tb := by
  have k2 : ∀ st' en', ww_W (fun j => j / 4 = a ∧ j % 4 < n) (fun j => nI ((s + j % 4) % 997)) st st' → ww_W (fun j => j / 4 = a ∧ j % 4 < n) (fun j => nI ((1 + s * (j % 4)) % 997)) en en' → ∀ d i tr', i + d = 2 → ww_W (fun j => j / 32 = a ∧ j % 32 / 16 < i ∧ j % 16 / 4 < n ∧ j % 4 < n) (fun j => nI (ww_wv s (j % 32 / 16) (j % 16 / 4) (j % 4))) tr tr' → wX_weave_78 post (nI a) (nI s) (d + 1) (nI i) sz st' en' tr' re rn tb := by
    intro st' en' h1 h2 d
    induction d with
    | zero =>
      intro i tr' hi hw
      exact pk_le 2 i (fun _ => H st' en' tr' h1 h2 (ww_Wi hw (fun j => by omega))) (fun h => by omega)
    | succ d ih =>
      intro i tr' hi hw
      refine pk_le 2 i (fun h => by omega) (fun h => ?_)
      exact xx_ws ha hs hn hz tr' re rn tb i h (fun tr2 hw2 => nm_r (nI_1 i) (ih (i + 1) tr2 (by omega) (ww_WW hw hw2 (fun j => by omega))))
  have k1 : ∀ d i st' en', i + d = n → ww_W (fun j => j / 4 = a ∧ j % 4 < i) (fun j => nI ((s + j % 4) % 997)) st st' → ww_W (fun j => j / 4 = a ∧ j % 4 < i) (fun j => nI ((1 + s * (j % 4)) % 997)) en en' → wX_weave_25 post (nI a) (nI s) (d + 1) (nI i) sz st' en' tr re rn tb := by
    intro d
    induction d with
    | zero =>
      intro i st' en' hi h1 h2
      exact ⟨ww_a3 a ha, pk_le n i (fun _ => ⟨3, k2 st' en' (ww_Wi h1 (fun j => by omega)) (ww_Wi h2 (fun j => by omega)) 2 0 tr (by omega) (ww_W0 (fun j => by omega))⟩) (fun h => by omega) (hx := ww_rd a rfl (by omega) hz)⟩
    | succ d ih =>
      intro i st' en' hi h1 h2
      have b2 := ww_b2 hs (show i < 4 by omega)
      refine ⟨ww_a3 a ha, pk_le n i (fun h => by omega) (fun h => ?_) (hx := ww_rd a rfl (by omega) hz)⟩
      refine xx_sc a i ?_
      rw [nI_add, ww_n4]
      refine xx_resN _ (by omega) ?_
      refine ww_put (4 * a + i) rfl (by omega) (by decide) ?_
      refine xx_resN _ (by omega) ?_
      have e : (4 * a + i) % 4 = i := by omega
      refine ww_put (4 * a + i) rfl (by omega) (by decide) (nm_r (nI_1 i) (ih (i + 1) _ _ (by omega) (ww_W1 h1 ?_ (fun j => by omega)) (ww_W1 h2 ?_ (fun j => by omega))))
      · show _ = nI ((s + (4 * a + i) % 4) % 997)
        rw [e]
      · show _ = nI ((1 + s * ((4 * a + i) % 4)) % 997)
        rw [e]
  exact ⟨n + 1, k1 n 0 st en (by omega) (ww_W0 (fun j => by omega)) (ww_W0 (fun j => by omega))⟩
theorem yy_wv {post : Int32 → SY → Prop} (ha : a < 3) (hs : s < 997) (hn : n ≤ 4) (hz : sz a = nI n) (st en tr re rn tb : Nat → Int32) (H : ∀ st' en' tr', ww_W (fun j => j / 4 = a ∧ j % 4 < n) (fun j => nI ((s + j % 4) % 997)) st st' → ww_W (fun j => j / 4 = a ∧ j % 4 < n) (fun j => nI ((1 + s * (j % 4)) % 997)) en en' → ww_W (fun j => j / 32 = a ∧ j % 16 / 4 < n ∧ j % 4 < n) (fun j => nI (ww_wv s (j % 32 / 16) (j % 16 / 4) (j % 4))) tr tr' → post 0 (sz, st', en', tr', re, rn, tb)) : ∃ n26, wY_weave_26 post (nI a) (nI s) n26 0 sz st en tr re rn tb := by
  have n4 : ¬ (4 : Int32) = 0 := by decide
  have k2 : ∀ (J26 : Int32 → (Nat → Int32) → (Nat → Int32) → (Nat → Int32) → (Nat → Int32) → (Nat → Int32) → (Nat → Int32) → (Nat → Int32) → Prop) (st' en' : Nat → Int32) (p : Nat), p < n → ∀ tr0, (∀ tr', ww_W (fun j => j / 32 = a ∧ j % 16 / 4 = p ∧ j % 4 < n) (fun j => nI (ww_wv s (j % 32 / 16) (j % 16 / 4) (j % 4))) tr0 tr' → J26 (nI (p + 1)) sz st' en' tr' re rn tb) → ∀ d i tr', i + d = 8 → ww_W (fun j => j / 32 = a ∧ j % 16 / 4 = p ∧ j % 4 < n ∧ 4 * (j % 32 / 16) + j % 4 < i) (fun j => nI (ww_wv s (j % 32 / 16) (j % 16 / 4) (j % 4))) tr0 tr' → wY_weave_80 post J26 (nI a) (nI s) (nI p) (d + 1) (nI i) sz st' en' tr' re rn tb := by
    intro J26 st' en' p hp tr0 HJ d
    induction d with
    | zero =>
      intro i tr' hi hw
      exact pk_le 8 i (fun _ => nm_r (nI_1 p) (HJ tr' (ww_Wi hw (fun j => by omega)))) (fun h => by omega)
    | succ d ih =>
      intro i tr' hi hw
      have b1 := ww_b1 hs (show p < 4 by omega) (show i % 4 < 4 by omega) (show i / 4 < 2 by omega)
      refine pk_le 8 i (fun h => by omega) (fun h => ?_)
      refine ⟨n4, nm_r (ww_qY i (by omega)) ⟨n4, nm_r (ww_dY i (by omega)) ⟨ww_a3 a ha, pk_le n (i % 4) (fun h => ?_) (fun h => ?_) (hx := ww_rd a rfl (by omega) hz)⟩⟩⟩
      · exact nm_r (nI_1 i) (ih (i + 1) tr' (by omega) (ww_Wi hw (fun j => by omega)))
      · have e1 : (32 * a + 16 * (i / 4) + 4 * p + i % 4) % 32 / 16 = i / 4 := by omega
        have e2 : (32 * a + 16 * (i / 4) + 4 * p + i % 4) % 16 / 4 = p := by omega
        have e3 : (32 * a + 16 * (i / 4) + 4 * p + i % 4) % 4 = i % 4 := by omega
        refine ⟨ww_ne997, ?_⟩
        rw [ww_n1]
        refine nm_r (ww_rem _ (by omega)) ⟨by decide, ?_⟩
        refine pk_eq ((p + 2 * (i % 4) + i / 4 + s) % 3) 0 (fun z => ?_) (fun z => ?_) (hx := by rw [ww_n2, ww_n3 _ (by omega)])
        · refine ww_put (32 * a + 16 * (i / 4) + 4 * p + i % 4) (ix_s _ _ _ _) (by omega) (by decide) (nm_r (nI_1 i) (ih (i + 1) _ (by omega) (ww_W1 hw ?_ (fun j => by omega))))
          show (0 : Int32) = nI (ww_wv s _ _ _)
          rw [e1, e2, e3]
          unfold ww_wv
          rw [if_pos z]
          rfl
        · refine ww_put (32 * a + 16 * (i / 4) + 4 * p + i % 4) (ix_s _ _ _ _) (by omega) (by decide) (nm_r (nI_1 i) (ih (i + 1) _ (by omega) (ww_W1 hw ?_ (fun j => by omega))))
          show _ = nI (ww_wv s _ _ _)
          rw [e1, e2, e3]
          unfold ww_wv
          rw [if_neg z]
  have k1 : ∀ d i st' en' tr', i + d = n → ww_W (fun j => j / 4 = a ∧ j % 4 < i) (fun j => nI ((s + j % 4) % 997)) st st' → ww_W (fun j => j / 4 = a ∧ j % 4 < i) (fun j => nI ((1 + s * (j % 4)) % 997)) en en' → ww_W (fun j => j / 32 = a ∧ j % 16 / 4 < i ∧ j % 4 < n) (fun j => nI (ww_wv s (j % 32 / 16) (j % 16 / 4) (j % 4))) tr tr' → wY_weave_26 post (nI a) (nI s) (d + 1) (nI i) sz st' en' tr' re rn tb := by
    intro d
    induction d with
    | zero =>
      intro i st' en' tr' hi h1 h2 h3
      exact ⟨ww_a3 a ha, pk_le n i (fun _ => H st' en' tr' (ww_Wi h1 (fun j => by omega)) (ww_Wi h2 (fun j => by omega)) (ww_Wi h3 (fun j => by omega))) (fun h => by omega) (hx := ww_rd a rfl (by omega) hz)⟩
    | succ d ih =>
      intro i st' en' tr' hi h1 h2 h3
      have b2 := ww_b2 hs (show i < 4 by omega)
      refine ⟨ww_a3 a ha, pk_le n i (fun h => by omega) (fun h => pk_le 4 i (fun h => by omega) (fun _ => ⟨ww_ne997, ?_⟩)) (hx := ww_rd a rfl (by omega) hz)⟩
      rw [nI_add, ww_n4, ww_rem _ (by omega), ww_rem _ (by omega)]
      have e : (4 * a + i) % 4 = i := by omega
      refine ww_put (4 * a + i) (ix_4 a i) (by omega) (by decide) ⟨ww_ne997, ww_put (4 * a + i) (ix_4 a i) (by omega) (by decide) ⟨9, ?_⟩⟩
      refine k2 _ _ _ i h tr' (fun tr2 hw2 => ih (i + 1) _ _ tr2 (by omega) (ww_W1 h1 ?_ (fun j => by omega)) (ww_W1 h2 ?_ (fun j => by omega)) (ww_WW h3 hw2 (fun j => by omega))) 8 0 tr' (by omega) (ww_W0 (fun j => by omega))
      · show _ = nI ((s + (4 * a + i) % 4) % 997)
        rw [e]
      · show _ = nI ((1 + s * ((4 * a + i) % 4)) % 997)
        rw [e]
  exact ⟨n + 1, k1 n 0 st en tr (by omega) (ww_W0 (fun j => by omega)) (ww_W0 (fun j => by omega)) (ww_W0 (fun j => by omega))⟩
end
theorem i_vc_weave {k : Nat} {u : SX} {v : SY} (I : i_Rel k u v) (hk : k + 5 ≤ 2560) (v1 : Int32) (v2 : Int32) : wpX_weave (fun r u' => wpY_weave (fun r' v' => r' = r ∧ i_Rel (k + 5) u' v') v v1 v2) u v1 v2 := by
  obtain ⟨xs, xb, xe, xt, xr, xn, xg⟩ := u
  obtain ⟨ys, yb, ye, yt, yr, yn, yg⟩ := v
  unfold wpX_weave wpY_weave
  dsimp only
  rcases ww_cs v1 with h | ⟨a, ha, rfl⟩
  · refine xx_auB _ h ?_
    refine br_t rfl ?_
    refine yy_bdB _ _ h ?_
    exact br_f (by decide) ⟨rfl, I⟩
  rcases pk_ix v2 (n := 997) (by decide) with h | h | ⟨s, hs, rfl⟩
  · refine xx_au a ha ?_
    refine br_f (by decide) ?_
    refine br_t h ?_
    refine yy_bd _ a ha ?_
    refine br_t rfl ?_
    exact br_t h ⟨rfl, I⟩
  · have hn : ¬ v2 ≤ 996 := by
      intro z
      have z2 : nI 997 ≤ nI 996 := Int32.le_trans h z
      rw [nI_leI (by decide) (by decide)] at z2
      omega
    have hm : ¬ v2 < 997 := Int32.not_lt.mpr h
    have h0 : ¬ v2 < 0 := fun z => hm (Int32.lt_trans z (by decide))
    refine xx_au a ha ?_
    refine br_f (by decide) ?_
    refine br_f h0 ?_
    refine br_f hm ?_
    refine yy_bd _ a ha ?_
    refine br_t rfl ?_
    refine br_f h0 ?_
    exact br_f hn ⟨rfl, I⟩
  obtain ⟨n, B, E, T, ok, ax, ay⟩ := I a ha
  obtain ⟨p1, p2, p3, p4⟩ := ax
  obtain ⟨r1, r2, r3, r4⟩ := ay
  obtain ⟨⟨o1, o2⟩, o3, o4, o5, o6, o7, o8⟩ := ok
  have h0 : ¬ nI s < 0 := nI_pos (by omega)
  have hm : nI s < 997 := nI_lt (b := 997) hs (by decide)
  have hn : nI s ≤ 996 := nI_le (b := 996) (by omega) (by decide)
  refine xx_au a ha ?_
  refine br_f (by decide) ?_
  refine br_f h0 ?_
  refine br_t hm ?_
  refine xx_wv ha hs o2 p1 _ _ _ _ _ _ (fun st' en' tr' w1 w2 w3 => ?_)
  refine yy_bd _ a ha ?_
  refine br_t rfl ?_
  refine br_f h0 ?_
  refine br_t hn ?_
  refine yy_wv ha hs o2 r1 _ _ _ _ _ _ (fun st'' en'' tr'' z1 z2 z3 => ⟨rfl, ?_⟩)
  refine ww_mk I ⟨n, fun q => if q < n then (s + q) % 997 else 0, fun q => if q < n then (1 + s * q) % 997 else 0, fun c p q => if p < n ∧ q < n then ww_wv s c p q else 0, ⟨⟨o1, o2⟩, fun q => ?_, fun q hq => ?_, fun q => ?_, fun q hq => ?_, fun c p q => ?_, fun c p q hpq => ?_⟩, ⟨p1, fun q hq => ?_, fun q hq => ?_, fun c p q hc hp hq => ?_⟩, ⟨r1, fun q hq => ?_, fun q hq => ?_, fun c p q hc hp hq => ?_⟩⟩ (fun _ _ => rfl) (fun j hj => (w1 j).2 (by omega)) (fun j hj => (w2 j).2 (by omega)) (fun j hj => (w3 j).2 (by omega)) (fun _ _ => rfl) (fun j hj => (z1 j).2 (by omega)) (fun j hj => (z2 j).2 (by omega)) (fun j hj => (z3 j).2 (by omega))
  · dsimp only; split <;> omega
  · dsimp only; rw [if_neg (by omega)]
  · dsimp only; split <;> omega
  · dsimp only; rw [if_neg (by omega)]
  · dsimp only
    have := ww_wv_lt s c p q
    split <;> omega
  · dsimp only; rw [if_neg (by omega)]
  · refine ((w1 (4 * a + q)).1 (by omega)).trans ?_
    dsimp only
    rw [if_pos hq, show (4 * a + q) % 4 = q by omega]
  · refine ((w2 (4 * a + q)).1 (by omega)).trans ?_
    dsimp only
    rw [if_pos hq, show (4 * a + q) % 4 = q by omega]
  · refine ((w3 (32 * a + 16 * c + 4 * p + q)).1 (by omega)).trans ?_
    dsimp only
    rw [if_pos ⟨hp, hq⟩, show (32 * a + 16 * c + 4 * p + q) % 32 / 16 = c by omega, show (32 * a + 16 * c + 4 * p + q) % 16 / 4 = p by omega, show (32 * a + 16 * c + 4 * p + q) % 4 = q by omega]
  · dsimp only
    by_cases h : q < n
    · rw [if_pos h]
      refine ((z1 (4 * a + q)).1 (by omega)).trans ?_
      dsimp only
      rw [show (4 * a + q) % 4 = q by omega]
    · rw [if_neg h]
      exact ((z1 (4 * a + q)).2 (by omega)).trans ((r2 q hq).trans (by rw [o4 q (by omega)]))
  · dsimp only
    by_cases h : q < n
    · rw [if_pos h]
      refine ((z2 (4 * a + q)).1 (by omega)).trans ?_
      dsimp only
      rw [show (4 * a + q) % 4 = q by omega]
    · rw [if_neg h]
      exact ((z2 (4 * a + q)).2 (by omega)).trans ((r3 q hq).trans (by rw [o6 q (by omega)]))
  · dsimp only
    by_cases h : p < n ∧ q < n
    · rw [if_pos h]
      refine ((z3 (32 * a + 16 * c + 4 * p + q)).1 (by omega)).trans ?_
      dsimp only
      rw [show (32 * a + 16 * c + 4 * p + q) % 32 / 16 = c by omega, show (32 * a + 16 * c + 4 * p + q) % 16 / 4 = p by omega, show (32 * a + 16 * c + 4 * p + q) % 4 = q by omega]
    · rw [if_neg h]
      exact ((z3 (32 * a + 16 * c + 4 * p + q)).2 (by omega)).trans ((r4 c p q hc hp hq).trans (by rw [o8 c p q (by omega)]))
end
section
/-! scale -/
section
variable {a b n : Nat} {B E : Nat → Nat} {T : Nat → Nat → Nat → Nat} {sz st en tr : Nat → Int32}
theorem xx_copy {post : SX → Prop} (ha : a < 3) (hb : b < 3) (hz : sz b = nI n) (re rn tb : Nat → Int32) (H : ∀ st' en' tr', ww_W (fun j => j / 4 = a) (fun j => st (4 * b + j % 4)) st st' → ww_W (fun j => j / 4 = a) (fun j => en (4 * b + j % 4)) en en' → ww_W (fun j => j / 32 = a) (fun j => tr (32 * b + j % 32)) tr tr' → post (upd sz a (nI n), st', en', tr', re, rn, tb)) : wpX_copyNumbers post (sz, st, en, tr, re, rn, tb) (nI a) (nI b) := by
  have k2 : ∀ st' en', ww_W (fun j => j / 4 = a) (fun j => st (4 * b + j % 4)) st st' → ww_W (fun j => j / 4 = a) (fun j => en (4 * b + j % 4)) en en' → ∀ d i tr', i + d = 32 → ww_W (fun j => j / 32 = a ∧ j % 32 < i) (fun j => tr (32 * b + j % 32)) tr tr' → wX_copyNumbers_69 post (nI a) (nI b) (d + 1) (nI i) (upd sz a (nI n)) st' en' tr' re rn tb := by
    intro st' en' h1 h2 d
    induction d with
    | zero =>
      intro i tr' hi hw
      exact pk_le 32 i (fun _ => H st' en' tr' h1 h2 (ww_Wi hw (fun j => by omega))) (fun h => by omega)
    | succ d ih =>
      intro i tr' hi hw
      refine pk_le 32 i (fun h => by omega) (fun h => ⟨pk_in (32 * b + i) 96 (by omega) (ix_32 b i), ?_⟩)
      refine ww_put (32 * a + i) (ix_32 a i) (by omega) (by decide) (nm_r (nI_1 i) (ih (i + 1) _ (by omega) (ww_W1 hw ?_ (fun j => by omega))))
      rw [ww_rd (32 * b + i) (ix_32 b i) (by omega) ((hw (32 * b + i)).2 (by omega)), show (32 * a + i) % 32 = i by omega]
  have k1 : ∀ d i st' en', i + d = 4 → ww_W (fun j => j / 4 = a ∧ j % 4 < i) (fun j => st (4 * b + j % 4)) st st' → ww_W (fun j => j / 4 = a ∧ j % 4 < i) (fun j => en (4 * b + j % 4)) en en' → wX_copyNumbers_14 post (nI a) (nI b) (d + 1) (nI i) (upd sz a (nI n)) st' en' tr re rn tb := by
    intro d
    induction d with
    | zero =>
      intro i st' en' hi h1 h2
      exact pk_le 4 i (fun _ => ⟨33, k2 st' en' (ww_Wi h1 (fun j => by omega)) (ww_Wi h2 (fun j => by omega)) 32 0 tr (by omega) (ww_W0 (fun j => by omega))⟩) (fun h => by omega)
    | succ d ih =>
      intro i st' en' hi h1 h2
      refine pk_le 4 i (fun h => by omega) (fun h => ?_)
      refine xx_sc b i ?_
      refine xx_sc a i ?_
      have vb : vp_in (nI (4 * b + i)) 12 := vp_in_nI (by omega) (by decide)
      refine ⟨vb, ww_put (4 * a + i) rfl (by omega) (by decide) ⟨vb, ww_put (4 * a + i) rfl (by omega) (by decide) (nm_r (nI_1 i) (ih (i + 1) _ _ (by omega) (ww_W1 h1 ?_ (fun j => by omega)) (ww_W1 h2 ?_ (fun j => by omega))))⟩⟩
      · rw [ww_rd (4 * b + i) rfl (by omega) ((h1 (4 * b + i)).2 (by omega)), show (4 * a + i) % 4 = i by omega]
      · rw [ww_rd (4 * b + i) rfl (by omega) ((h2 (4 * b + i)).2 (by omega)), show (4 * a + i) % 4 = i by omega]
  refine ⟨ww_a3 b hb, ww_put a rfl ha (by decide) ⟨5, ?_⟩⟩
  rw [ww_rd b rfl (by omega) hz]
  exact k1 4 0 st en (by omega) (ww_W0 (fun j => by omega)) (ww_W0 (fun j => by omega))
theorem xx_s31 {post : Int32 → SX → Prop} (ha : a < 3) (hn : n ≤ 4) (hz : sz a = nI n) (f : Nat) (hf : f < 997) (hB : ∀ q, B q < 997) (hs : ∀ q, q < n → st (4 * a + q) = nI (B q)) (re rn tb : Nat → Int32) (H : ∀ st', ww_W (fun j => j / 4 = a ∧ j % 4 < n) (fun j => nI (B (j % 4) * f % 997)) st st' → post 0 (sz, st', en, tr, re, rn, tb)) : ∃ n31, wX_scale_31 post (nI a) (nI f) n31 0 sz st en tr re rn tb := by
  have k1 : ∀ d i st', i + d = n → ww_W (fun j => j / 4 = a ∧ j % 4 < i) (fun j => nI (B (j % 4) * f % 997)) st st' → wX_scale_31 post (nI a) (nI f) (d + 1) (nI i) sz st' en tr re rn tb := by
    intro d
    induction d with
    | zero =>
      intro i st' hi h1
      exact ⟨ww_a3 a ha, pk_le n i (fun _ => H st' (ww_Wi h1 (fun j => by omega))) (fun h => by omega) (hx := ww_rd a rfl (by omega) hz)⟩
    | succ d ih =>
      intro i st' hi h1
      have hb : B i * f ≤ 996 * 996 := Nat.mul_le_mul (Nat.le_of_lt_succ (hB i)) (Nat.le_of_lt_succ hf)
      refine ⟨ww_a3 a ha, pk_le n i (fun h => by omega) (fun h => ?_) (hx := ww_rd a rfl (by omega) hz)⟩
      refine xx_sc a i ⟨vp_in_nI (by omega) (by decide), ?_⟩
      rw [ww_rd (4 * a + i) rfl (by omega) (((h1 (4 * a + i)).2 (by omega)).trans (hs i h)), pk_mul]
      refine xx_resN _ (by omega) ?_
      refine ww_put (4 * a + i) rfl (by omega) (by decide) (nm_r (nI_1 i) (ih (i + 1) _ (by omega) (ww_W1 h1 ?_ (fun j => by omega))))
      rw [show (4 * a + i) % 4 = i by omega]
  exact ⟨n + 1, k1 n 0 st (by omega) (ww_W0 (fun j => by omega))⟩
theorem yy_s40 {post : Int32 → SY → Prop} (ha : a < 3) (hb : b < 3) (f : Nat) (hf : f < 997) (hB : ∀ q, B q < 997) (hs : ∀ q, q < 4 → st (4 * b + q) = nI (B q)) (sz re rn tb : Nat → Int32) (H : ∀ st' en' tr', ww_W (fun j => j / 4 = a) (fun j => nI (B (j % 4) * f % 997)) st st' → ww_W (fun j => j / 4 = a) (fun j => en (4 * b + j % 4)) en en' → ww_W (fun j => j / 32 = a) (fun j => tr (32 * b + j % 32)) tr tr' → post 0 (sz, st', en', tr', re, rn, tb)) : ∃ n40, wY_scale_40 post (nI a) (nI b) (nI f) n40 0 sz st en tr re rn tb := by
  have k2 : ∀ st' en', ww_W (fun j => j / 4 = a) (fun j => nI (B (j % 4) * f % 997)) st st' → ww_W (fun j => j / 4 = a) (fun j => en (4 * b + j % 4)) en en' → ∀ d i tr', i + d = 32 → ww_W (fun j => j / 32 = a ∧ j % 32 < i) (fun j => tr (32 * b + j % 32)) tr tr' → wY_scale_106 post (nI a) (nI b) (d + 1) (nI i) sz st' en' tr' re rn tb := by
    intro st' en' h1 h2 d
    induction d with
    | zero =>
      intro i tr' hi hw
      exact pk_le 32 i (fun _ => H st' en' tr' h1 h2 (ww_Wi hw (fun j => by omega))) (fun h => by omega)
    | succ d ih =>
      intro i tr' hi hw
      refine pk_le 32 i (fun h => by omega) (fun h => ⟨pk_in (32 * b + i) 96 (by omega) (ix_32 b i), ?_⟩)
      refine ww_put (32 * a + i) (ix_32 a i) (by omega) (by decide) (nm_r (nI_1 i) (ih (i + 1) _ (by omega) (ww_W1 hw ?_ (fun j => by omega))))
      rw [ww_rd (32 * b + i) (ix_32 b i) (by omega) ((hw (32 * b + i)).2 (by omega)), show (32 * a + i) % 32 = i by omega]
  have k1 : ∀ d i st' en', i + d = 4 → ww_W (fun j => j / 4 = a ∧ j % 4 < i) (fun j => nI (B (j % 4) * f % 997)) st st' → ww_W (fun j => j / 4 = a ∧ j % 4 < i) (fun j => en (4 * b + j % 4)) en en' → wY_scale_40 post (nI a) (nI b) (nI f) (d + 1) (nI i) sz st' en' tr re rn tb := by
    intro d
    induction d with
    | zero =>
      intro i st' en' hi h1 h2
      exact pk_le 4 i (fun _ => ⟨33, k2 st' en' (ww_Wi h1 (fun j => by omega)) (ww_Wi h2 (fun j => by omega)) 32 0 tr (by omega) (ww_W0 (fun j => by omega))⟩) (fun h => by omega)
    | succ d ih =>
      intro i st' en' hi h1 h2
      have hbd : B i * f ≤ 996 * 996 := Nat.mul_le_mul (Nat.le_of_lt_succ (hB i)) (Nat.le_of_lt_succ hf)
      refine pk_le 4 i (fun h => by omega) (fun h => ?_)
      have vb : vp_in (4 * nI b + nI i) 12 := pk_in (4 * b + i) 12 (by omega) (ix_4 b i)
      refine ⟨vb, ww_ne997, ww_put (4 * a + i) (ix_4 a i) (by omega) (by decide) ⟨vb, ww_put (4 * a + i) (ix_4 a i) (by omega) (by decide) (nm_r (nI_1 i) (ih (i + 1) _ _ (by omega) (ww_W1 h1 ?_ (fun j => by omega)) (ww_W1 h2 ?_ (fun j => by omega))))⟩⟩
      · rw [ww_rd (4 * b + i) (ix_4 b i) (by omega) (((h1 (4 * b + i)).2 (by omega)).trans (hs i h)), pk_mul, ww_rem _ (by omega), show (4 * a + i) % 4 = i by omega]
      · rw [ww_rd (4 * b + i) (ix_4 b i) (by omega) ((h2 (4 * b + i)).2 (by omega)), show (4 * a + i) % 4 = i by omega]
  exact ⟨5, k1 4 0 st en (by omega) (ww_W0 (fun j => by omega)) (ww_W0 (fun j => by omega))⟩
end
theorem i_vc_scale {k : Nat} {u : SX} {v : SY} (I : i_Rel k u v) (hk : k + 5 ≤ 2560) (v1 : Int32) (v2 : Int32) (v3 : Int32) : wpX_scale (fun r u' => wpY_scale (fun r' v' => r' = r ∧ i_Rel (k + 5) u' v') v v1 v2 v3) u v1 v2 v3 := by
  obtain ⟨xs, xb, xe, xt, xr, xn, xg⟩ := u
  obtain ⟨ys, yb, ye, yt, yr, yn, yg⟩ := v
  unfold wpX_scale wpY_scale
  dsimp only
  rcases ww_cs v1 with h | ⟨a, ha, rfl⟩
  · refine xx_auB _ h ?_
    refine br_t rfl ?_
    refine yy_bdB _ _ h ?_
    exact br_f (by decide) ⟨rfl, I⟩
  rcases ww_cs v2 with h | ⟨b, hb, rfl⟩
  · refine xx_au a ha ?_
    refine br_f (by decide) ?_
    refine xx_auB _ h ?_
    refine br_t rfl ?_
    refine yy_bd _ a ha ?_
    refine br_t rfl ?_
    refine yy_bdB _ _ h ?_
    exact br_f (by decide) ⟨rfl, I⟩
  obtain ⟨n, B, E, T, ok, ax, ay⟩ := I b hb
  obtain ⟨p1, p2, p3, p4⟩ := ax
  obtain ⟨r1, r2, r3, r4⟩ := ay
  obtain ⟨⟨o1, o2⟩, o3, o4, o5, o6, o7, o8⟩ := ok
  dsimp only at p1 p2 p3 p4 r1 r2 r3 r4
  have hf := ww_md_lt v3
  refine xx_au a ha ?_
  refine br_f (by decide) ?_
  refine xx_au b hb ?_
  refine br_f (by decide) ?_
  refine xx_copy ha hb p1 _ _ _ (fun st1 en1 tr1 w1 w2 w3 => ?_)
  refine xx_residue v3 ?_
  have c1 : ∀ q, q < n → st1 (4 * a + q) = nI (B q) := by
    intro q hq
    refine ((w1 (4 * a + q)).1 (by omega)).trans ?_
    dsimp only
    rw [show (4 * a + q) % 4 = q by omega]
    exact p2 q hq
  refine xx_s31 ha o2 pk_us (ww_md v3) hf o3 c1 _ _ _ (fun st2 w4 => ?_)
  refine yy_bd _ a ha ?_
  refine br_t rfl ?_
  refine yy_bd _ b hb ?_
  refine br_t rfl ?_
  refine yy_reduced _ v3 ?_
  refine ⟨ww_a3 b hb, ww_put a rfl ha (by decide) ?_⟩
  rw [ww_rd b rfl (by omega) r1]
  refine yy_s40 ha hb (ww_md v3) hf o3 r2 _ _ _ _ (fun st3 en3 tr3 z1 z2 z3 => ⟨rfl, ?_⟩)
  refine ww_mk I ⟨n, fun q => B q * ww_md v3 % 997, E, T, ⟨⟨o1, o2⟩, fun q => Nat.mod_lt _ (by decide), fun q hq => ?_, o5, o6, o7, o8⟩, ⟨pk_us, fun q hq => ?_, fun q hq => ?_, fun c p q hc hp hq => ?_⟩, ⟨pk_us, fun q hq => ?_, fun q hq => ?_, fun c p q hc hp hq => ?_⟩⟩ ww_un (fun j hj => ((w4 j).2 (by omega)).trans ((w1 j).2 hj)) (fun j hj => (w2 j).2 hj) (fun j hj => (w3 j).2 hj) ww_un (fun j hj => (z1 j).2 hj) (fun j hj => (z2 j).2 hj) (fun j hj => (z3 j).2 hj)
  · dsimp only
    rw [o4 q hq, Nat.zero_mul]
  · refine ((w4 (4 * a + q)).1 (by omega)).trans ?_
    dsimp only
    rw [show (4 * a + q) % 4 = q by omega]
  · refine ((w2 (4 * a + q)).1 (by omega)).trans ?_
    dsimp only
    rw [show (4 * a + q) % 4 = q by omega]
    exact p3 q hq
  · refine ((w3 (32 * a + 16 * c + 4 * p + q)).1 (by omega)).trans ?_
    dsimp only
    rw [show 32 * b + (32 * a + 16 * c + 4 * p + q) % 32 = 32 * b + 16 * c + 4 * p + q by omega]
    exact p4 c p q hc hp hq
  · refine ((z1 (4 * a + q)).1 (by omega)).trans ?_
    dsimp only
    rw [show (4 * a + q) % 4 = q by omega]
  · refine ((z2 (4 * a + q)).1 (by omega)).trans ?_
    dsimp only
    rw [show (4 * a + q) % 4 = q by omega]
    exact r3 q hq
  · refine ((z3 (32 * a + 16 * c + 4 * p + q)).1 (by omega)).trans ?_
    dsimp only
    rw [show 32 * b + (32 * a + 16 * c + 4 * p + q) % 32 = 32 * b + 16 * c + 4 * p + q by omega]
    exact r4 c p q hc hp hq
end
section
/-! mirror -/
theorem ww_s1 {n : Nat} (h : 1 ≤ n) : nI n - 1 = nI (n - 1) := pk_sub (b := 1) h
theorem ww_ixm (a n p : Nat) (hp : p < n) : (4 : Int32) * nI a + nI n - 1 - nI p = nI (4 * a + (n - 1 - p)) := by
  rw [ix_4, ww_s1 (by omega), pk_sub (by omega)]
  exact congrArg nI (by omega)
theorem ww_ixn (a c n p q : Nat) (hp : p < n) (hq : q < n) : (32 : Int32) * nI a + 16 * nI c + 4 * (nI n - 1 - nI p) + nI n - 1 - nI q = nI (32 * a + 16 * c + 4 * (n - 1 - p) + (n - 1 - q)) := by
  rw [ww_s1 (show 1 ≤ n by omega), pk_sub (show p ≤ n - 1 by omega), ix_s, ww_s1 (by omega), pk_sub (by omega)]
  exact congrArg nI (by omega)
section
variable {a b n : Nat} {B E : Nat → Nat} {T : Nat → Nat → Nat → Nat} {sz st en : Nat → Int32}
theorem xx_ms {post : SX → Prop} (ha : a < 3) (hb : b < 3) (hab : a ≠ b) (h1 : 1 ≤ n) (hn : n ≤ 4) (hz : sz b = nI n) (tr re rn tb : Nat → Int32) (c : Nat) (hc : c < 2) (hT : ∀ c p q, c < 2 → p < n → q < n → tr (32 * b + 16 * c + 4 * p + q) = nI (T c p q)) (H : ∀ tr', ww_W (fun j => j / 32 = a ∧ j % 32 / 16 = c ∧ j % 16 / 4 < n ∧ j % 4 < n) (fun j => nI (T (j % 32 / 16) (n - 1 - j % 16 / 4) (n - 1 - j % 4))) tr tr' → post (sz, st, en, tr', re, rn, tb)) : wpX_mirrorSteps post (sz, st, en, tr, re, rn, tb) (nI a) (nI b) (nI c) := by
  have k2 : ∀ (J13 : Int32 → (Nat → Int32) → (Nat → Int32) → (Nat → Int32) → (Nat → Int32) → (Nat → Int32) → (Nat → Int32) → (Nat → Int32) → Prop) (p : Nat), p < n → ∀ tr0, (∀ j, j / 32 = b → tr0 j = tr j) → (∀ tr', ww_W (fun j => j / 32 = a ∧ j % 32 / 16 = c ∧ j % 16 / 4 = n - 1 - p ∧ j % 4 < n) (fun j => nI (T (j % 32 / 16) (n - 1 - j % 16 / 4) (n - 1 - j % 4))) tr0 tr' → J13 (nI (p + 1)) sz st en tr' re rn tb) → ∀ d i tr', i + d = n → ww_W (fun j => j / 32 = a ∧ j % 32 / 16 = c ∧ j % 16 / 4 = n - 1 - p ∧ j % 4 < n ∧ n - i ≤ j % 4) (fun j => nI (T (j % 32 / 16) (n - 1 - j % 16 / 4) (n - 1 - j % 4))) tr0 tr' → wX_mirrorSteps_23 post J13 (nI a) (nI b) (nI c) (nI (n - 1)) (nI p) (d + 1) (nI i) sz st en tr' re rn tb := by
    intro J13 p hp tr0 hbk HJ d
    induction d with
    | zero =>
      intro i tr' hi hw
      exact pk_lt (n - 1) i (fun _ => nm_r (nI_1 p) (HJ tr' (ww_Wi hw (fun j => by omega)))) (fun h => by omega)
    | succ d ih =>
      intro i tr' hi hw
      refine pk_lt (n - 1) i (fun h => by omega) (fun h => ?_)
      rw [pk_sub (show p ≤ n - 1 by omega), pk_sub (show i ≤ n - 1 by omega)]
      refine xx_st b c p i ?_
      refine xx_st a c (n - 1 - p) (n - 1 - i) ?_
      refine ⟨vp_in_nI (by omega) (by decide), ww_put (32 * a + 16 * c + 4 * (n - 1 - p) + (n - 1 - i)) rfl (by omega) (by decide) (nm_r (nI_1 i) (ih (i + 1) _ (by omega) (ww_W1 hw ?_ (fun j => by omega))))⟩
      rw [ww_rd (32 * b + 16 * c + 4 * p + i) rfl (by omega) ((((hw (32 * b + 16 * c + 4 * p + i)).2 (by omega)).trans (hbk _ (by omega))).trans (hT c p i hc hp (by omega)))]
      rw [show (32 * a + 16 * c + 4 * (n - 1 - p) + (n - 1 - i)) % 32 / 16 = c by omega, show n - 1 - (32 * a + 16 * c + 4 * (n - 1 - p) + (n - 1 - i)) % 16 / 4 = p by omega, show n - 1 - (32 * a + 16 * c + 4 * (n - 1 - p) + (n - 1 - i)) % 4 = i by omega]
  have k1 : ∀ d i tr', i + d = n → ww_W (fun j => j / 32 = a ∧ j % 32 / 16 = c ∧ j % 16 / 4 < n ∧ n - i ≤ j % 16 / 4 ∧ j % 4 < n) (fun j => nI (T (j % 32 / 16) (n - 1 - j % 16 / 4) (n - 1 - j % 4))) tr tr' → wX_mirrorSteps_13 post (nI a) (nI b) (nI c) (nI (n - 1)) (d + 1) (nI i) sz st en tr' re rn tb := by
    intro d
    induction d with
    | zero =>
      intro i tr' hi hw
      exact pk_lt (n - 1) i (fun _ => H tr' (ww_Wi hw (fun j => by omega))) (fun h => by omega)
    | succ d ih =>
      intro i tr' hi hw
      refine pk_lt (n - 1) i (fun h => by omega) (fun h => ⟨n + 1, ?_⟩)
      refine k2 _ i (by omega) tr' (fun j hj => (hw j).2 (by omega)) (fun tr2 hw2 => ih (i + 1) tr2 (by omega) (ww_WW hw hw2 (fun j => by omega))) n 0 tr' (by omega) (ww_W0 (fun j => by omega))
  refine ⟨ww_a3 b hb, nm_r ?_ ⟨n + 1, k1 n 0 tr (by omega) (ww_W0 (fun j => by omega))⟩⟩
  rw [ww_rd b rfl (by omega) hz, ww_s1 h1]
theorem xx_mi {post : Int32 → SX → Prop} (ha : a < 3) (hb : b < 3) (hab : a ≠ b) (h1 : 1 ≤ n) (hn : n ≤ 4) (st en tr re rn tb : Nat → Int32) (ax : ww_AX b n B E T sz st en tr) (H : ∀ st' en' tr', ww_W (fun j => j / 4 = a ∧ j % 4 < n) (fun j => nI (B (n - 1 - j % 4))) st st' → ww_W (fun j => j / 4 = a ∧ j % 4 < n) (fun j => nI (E (n - 1 - j % 4))) en en' → ww_W (fun j => j / 32 = a ∧ j % 16 / 4 < n ∧ j % 4 < n) (fun j => nI (T (j % 32 / 16) (n - 1 - j % 16 / 4) (n - 1 - j % 4))) tr tr' → post 0 (sz, st', en', tr', re, rn, tb)) : ∃ n38, wX_mirror_38 post (nI a) (nI b) n38 0 sz st en tr re rn tb := by
  obtain ⟨hz, p2, p3, p4⟩ := ax
  have k2 : ∀ st' en', ww_W (fun j => j / 4 = a ∧ j % 4 < n) (fun j => nI (B (n - 1 - j % 4))) st st' → ww_W (fun j => j / 4 = a ∧ j % 4 < n) (fun j => nI (E (n - 1 - j % 4))) en en' → ∀ d i tr', i + d = 2 → ww_W (fun j => j / 32 = a ∧ j % 32 / 16 < i ∧ j % 16 / 4 < n ∧ j % 4 < n) (fun j => nI (T (j % 32 / 16) (n - 1 - j % 16 / 4) (n - 1 - j % 4))) tr tr' → wX_mirror_107 post (nI a) (nI b) (d + 1) (nI i) sz st' en' tr' re rn tb := by
    intro st' en' q1 q2 d
    induction d with
    | zero =>
      intro i tr' hi hw
      exact pk_le 2 i (fun _ => H st' en' tr' q1 q2 (ww_Wi hw (fun j => by omega))) (fun h => by omega)
    | succ d ih =>
      intro i tr' hi hw
      refine pk_le 2 i (fun h => by omega) (fun h => ?_)
      exact xx_ms ha hb hab h1 hn hz tr' re rn tb i h (fun c p q hc hp hq => ((hw _).2 (by omega)).trans (p4 c p q hc hp hq)) (fun tr2 hw2 => nm_r (nI_1 i) (ih (i + 1) tr2 (by omega) (ww_WW hw hw2 (fun j => by omega))))
  have k1 : ∀ d i st' en', i + d = n → ww_W (fun j => j / 4 = a ∧ j % 4 < n ∧ n - i ≤ j % 4) (fun j => nI (B (n - 1 - j % 4))) st st' → ww_W (fun j => j / 4 = a ∧ j % 4 < n ∧ n - i ≤ j % 4) (fun j => nI (E (n - 1 - j % 4))) en en' → wX_mirror_38 post (nI a) (nI b) (d + 1) (nI i) sz st' en' tr re rn tb := by
    intro d
    induction d with
    | zero =>
      intro i st' en' hi q1 q2
      exact ⟨ww_a3 b hb, pk_le n i (fun _ => ⟨3, k2 st' en' (ww_Wi q1 (fun j => by omega)) (ww_Wi q2 (fun j => by omega)) 2 0 tr (by omega) (ww_W0 (fun j => by omega))⟩) (fun h => by omega) (hx := ww_rd b rfl (by omega) hz)⟩
    | succ d ih =>
      intro i st' en' hi q1 q2
      refine ⟨ww_a3 b hb, pk_le n i (fun h => by omega) (fun h => ?_) (hx := ww_rd b rfl (by omega) hz)⟩
      refine xx_sc b i ⟨ww_a3 b hb, ?_⟩
      rw [ww_rd b rfl (by omega) hz, ww_s1 h1, pk_sub (show i ≤ n - 1 by omega)]
      refine xx_sc a (n - 1 - i) ?_
      have vb : vp_in (nI (4 * b + i)) 12 := vp_in_nI (by omega) (by decide)
      refine ⟨vb, ww_put (4 * a + (n - 1 - i)) rfl (by omega) (by decide) ⟨vb, ww_put (4 * a + (n - 1 - i)) rfl (by omega) (by decide) (nm_r (nI_1 i) (ih (i + 1) _ _ (by omega) (ww_W1 q1 ?_ (fun j => by omega)) (ww_W1 q2 ?_ (fun j => by omega))))⟩⟩
      · rw [ww_rd (4 * b + i) rfl (by omega) (((q1 (4 * b + i)).2 (by omega)).trans (p2 i h)), show n - 1 - (4 * a + (n - 1 - i)) % 4 = i by omega]
      · rw [ww_rd (4 * b + i) rfl (by omega) (((q2 (4 * b + i)).2 (by omega)).trans (p3 i h)), show n - 1 - (4 * a + (n - 1 - i)) % 4 = i by omega]
  exact ⟨n + 1, k1 n 0 st en (by omega) (ww_W0 (fun j => by omega)) (ww_W0 (fun j => by omega))⟩
theorem yy_mi {post : Int32 → SY → Prop} (ha : a < 3) (hb : b < 3) (hab : a ≠ b) (h1 : 1 ≤ n) (hn : n ≤ 4) (sz st en tr re rn tb : Nat → Int32) (r2 : ∀ q, q < n → st (4 * b + q) = nI (B q)) (r3 : ∀ q, q < n → en (4 * b + q) = nI (E q)) (r4 : ∀ c p q, c < 2 → p < n → q < n → tr (32 * b + 16 * c + 4 * p + q) = nI (T c p q)) (H : ∀ st' en' tr', ww_W (fun j => j / 4 = a ∧ j % 4 < n) (fun j => nI (B (n - 1 - j % 4))) st st' → ww_W (fun j => j / 4 = a ∧ j % 4 < n) (fun j => nI (E (n - 1 - j % 4))) en en' → ww_W (fun j => j / 32 = a ∧ j % 16 / 4 < n ∧ j % 4 < n) (fun j => nI (T (j % 32 / 16) (n - 1 - j % 16 / 4) (n - 1 - j % 4))) tr tr' → post 0 (sz, st', en', tr', re, rn, tb)) : ∃ n43, wY_mirror_43 post (nI a) (nI b) (nI n) n43 0 sz st en tr re rn tb := by
  have n4 : ¬ (4 : Int32) = 0 := by decide
  have k2 : ∀ (J43 : Int32 → (Nat → Int32) → (Nat → Int32) → (Nat → Int32) → (Nat → Int32) → (Nat → Int32) → (Nat → Int32) → (Nat → Int32) → Prop) (st' en' : Nat → Int32) (p : Nat), p < n → ∀ tr0, (∀ j, j / 32 = b → tr0 j = tr j) → (∀ tr', ww_W (fun j => j / 32 = a ∧ j % 16 / 4 = n - 1 - p ∧ j % 4 < n) (fun j => nI (T (j % 32 / 16) (n - 1 - j % 16 / 4) (n - 1 - j % 4))) tr0 tr' → J43 (nI (p + 1)) sz st' en' tr' re rn tb) → ∀ d i tr', i + d = 8 → ww_W (fun j => j / 32 = a ∧ j % 16 / 4 = n - 1 - p ∧ j % 4 < n ∧ 4 * (j % 32 / 16) + (n - 1 - j % 4) < i) (fun j => nI (T (j % 32 / 16) (n - 1 - j % 16 / 4) (n - 1 - j % 4))) tr0 tr' → wY_mirror_110 post J43 (nI a) (nI b) (nI n) (nI p) (d + 1) (nI i) sz st' en' tr' re rn tb := by
    intro J43 st' en' p hp tr0 hbk HJ d
    induction d with
    | zero =>
      intro i tr' hi hw
      exact pk_le 8 i (fun _ => nm_r (nI_1 p) (HJ tr' (ww_Wi hw (fun j => by omega)))) (fun h => by omega)
    | succ d ih =>
      intro i tr' hi hw
      refine pk_le 8 i (fun h => by omega) (fun h => ?_)
      refine ⟨n4, nm_r (ww_qY i (by omega)) ⟨n4, nm_r (ww_dY i (by omega)) (pk_le n (i % 4) (fun h => ?_) (fun h => ?_))⟩⟩
      · exact nm_r (nI_1 i) (ih (i + 1) tr' (by omega) (ww_Wi hw (fun j => by omega)))
      · refine ⟨pk_in (32 * b + 16 * (i / 4) + 4 * p + i % 4) 96 (by omega) (ix_s _ _ _ _), ww_put (32 * a + 16 * (i / 4) + 4 * (n - 1 - p) + (n - 1 - i % 4)) (ww_ixn _ _ _ _ _ hp h) (by omega) (by decide) (nm_r (nI_1 i) (ih (i + 1) _ (by omega) (ww_W1 hw ?_ (fun j => by omega))))⟩
        rw [ww_rd (32 * b + 16 * (i / 4) + 4 * p + i % 4) (ix_s _ _ _ _) (by omega) ((((hw (32 * b + 16 * (i / 4) + 4 * p + i % 4)).2 (by omega)).trans (hbk _ (by omega))).trans (r4 (i / 4) p (i % 4) (by omega) hp h))]
        rw [show (32 * a + 16 * (i / 4) + 4 * (n - 1 - p) + (n - 1 - i % 4)) % 32 / 16 = i / 4 by omega, show n - 1 - (32 * a + 16 * (i / 4) + 4 * (n - 1 - p) + (n - 1 - i % 4)) % 16 / 4 = p by omega, show n - 1 - (32 * a + 16 * (i / 4) + 4 * (n - 1 - p) + (n - 1 - i % 4)) % 4 = i % 4 by omega]
  have k1 : ∀ d i st' en' tr', i + d = n → ww_W (fun j => j / 4 = a ∧ j % 4 < n ∧ n - i ≤ j % 4) (fun j => nI (B (n - 1 - j % 4))) st st' → ww_W (fun j => j / 4 = a ∧ j % 4 < n ∧ n - i ≤ j % 4) (fun j => nI (E (n - 1 - j % 4))) en en' → ww_W (fun j => j / 32 = a ∧ j % 16 / 4 < n ∧ n - i ≤ j % 16 / 4 ∧ j % 4 < n) (fun j => nI (T (j % 32 / 16) (n - 1 - j % 16 / 4) (n - 1 - j % 4))) tr tr' → wY_mirror_43 post (nI a) (nI b) (nI n) (d + 1) (nI i) sz st' en' tr' re rn tb := by
    intro d
    induction d with
    | zero =>
      intro i st' en' tr' hi q1 q2 q3
      exact pk_le n i (fun _ => H st' en' tr' (ww_Wi q1 (fun j => by omega)) (ww_Wi q2 (fun j => by omega)) (ww_Wi q3 (fun j => by omega))) (fun h => by omega)
    | succ d ih =>
      intro i st' en' tr' hi q1 q2 q3
      refine pk_le n i (fun h => by omega) (fun h => pk_le 4 i (fun h => by omega) (fun _ => ?_))
      have vb : vp_in (4 * nI b + nI i) 12 := pk_in (4 * b + i) 12 (by omega) (ix_4 b i)
      refine ⟨vb, ww_put (4 * a + (n - 1 - i)) (ww_ixm a n i h) (by omega) (by decide) ⟨vb, ww_put (4 * a + (n - 1 - i)) (ww_ixm a n i h) (by omega) (by decide) ⟨9, ?_⟩⟩⟩
      refine k2 _ _ _ i h tr' (fun j hj => (q3 j).2 (by omega)) (fun tr2 hw2 => ih (i + 1) _ _ tr2 (by omega) (ww_W1 q1 ?_ (fun j => by omega)) (ww_W1 q2 ?_ (fun j => by omega)) (ww_WW q3 hw2 (fun j => by omega))) 8 0 tr' (by omega) (ww_W0 (fun j => by omega))
      · rw [ww_rd (4 * b + i) (ix_4 b i) (by omega) (((q1 (4 * b + i)).2 (by omega)).trans (r2 i h)), show n - 1 - (4 * a + (n - 1 - i)) % 4 = i by omega]
      · rw [ww_rd (4 * b + i) (ix_4 b i) (by omega) (((q2 (4 * b + i)).2 (by omega)).trans (r3 i h)), show n - 1 - (4 * a + (n - 1 - i)) % 4 = i by omega]
  exact ⟨n + 1, k1 n 0 st en tr (by omega) (ww_W0 (fun j => by omega)) (ww_W0 (fun j => by omega)) (ww_W0 (fun j => by omega))⟩
end
theorem i_vc_mirror {k : Nat} {u : SX} {v : SY} (I : i_Rel k u v) (hk : k + 5 ≤ 2560) (v1 : Int32) (v2 : Int32) : wpX_mirror (fun r u' => wpY_mirror (fun r' v' => r' = r ∧ i_Rel (k + 5) u' v') v v1 v2) u v1 v2 := by
  obtain ⟨xs, xb, xe, xt, xr, xn, xg⟩ := u
  obtain ⟨ys, yb, ye, yt, yr, yn, yg⟩ := v
  unfold wpX_mirror wpY_mirror
  dsimp only
  rcases ww_cs v1 with h | ⟨a, ha, rfl⟩
  · refine xx_auB _ h ?_
    refine br_t rfl ?_
    refine yy_bdB _ _ h ?_
    exact br_f (by decide) ⟨rfl, I⟩
  rcases ww_cs v2 with h | ⟨b, hb, rfl⟩
  · refine xx_au a ha ?_
    refine br_f (by decide) ?_
    refine xx_auB _ h ?_
    refine br_t rfl ?_
    refine yy_bd _ a ha ?_
    refine br_t rfl ?_
    refine yy_bdB _ _ h ?_
    exact br_f (by decide) ⟨rfl, I⟩
  by_cases hab : a = b
  · subst hab
    refine xx_au a ha ?_
    refine br_f (by decide) ?_
    refine xx_au a ha ?_
    refine br_f (by decide) ?_
    refine br_t rfl ?_
    refine yy_bd _ a ha ?_
    refine br_t rfl ?_
    refine yy_bd _ a ha ?_
    refine br_t rfl ?_
    exact br_t rfl ⟨rfl, I⟩
  have hne : ¬ nI a = nI b := fun z => hab ((nI_eq (by omega) (by omega)).mp z)
  obtain ⟨n0, B0, E0, T0, ok0, ax0, ay0⟩ := I a ha
  obtain ⟨n, B, E, T, ok, ax, ay⟩ := I b hb
  obtain ⟨p1, p2, p3, p4⟩ := ax
  obtain ⟨r1, r2, r3, r4⟩ := ay
  obtain ⟨⟨o1, o2⟩, o3, o4, o5, o6, o7, o8⟩ := ok
  have a1 := ay0.1
  dsimp only at p1 p2 p3 p4 r1 r2 r3 r4 a1
  refine xx_au a ha ?_
  refine br_f (by decide) ?_
  refine xx_au b hb ?_
  refine br_f (by decide) ?_
  refine br_f hne ?_
  refine ⟨ww_a3 b hb, ww_put a rfl ha (by decide) ?_⟩
  rw [ww_rd b rfl (by omega) p1]
  refine xx_mi (B := B) (E := E) (T := T) ha hb hab o1 o2 _ _ _ _ _ _ ⟨(pk_un (fun z => hab z.symm)).trans p1, p2, p3, p4⟩ (fun st1 en1 tr1 w1 w2 w3 => ?_)
  refine yy_bd _ a ha ?_
  refine br_t rfl ?_
  refine yy_bd _ b hb ?_
  refine br_t rfl ?_
  refine br_f hne ?_
  refine ⟨ww_a3 b hb, nm_r (ww_rd b rfl (by omega) r1) ?_⟩
  refine yy_size ha _ _ _ _ _ _ _ a1 o1 o2 (fun st2 en2 tr2 y1 y2 y3 => ?_)
  refine yy_mi (B := B) (E := E) (T := T) ha hb hab o1 o2 _ _ _ _ _ _ _ (fun q hq => ((y1 (4 * b + q)).2 (by omega)).trans (r2 q (by omega))) (fun q hq => ((y2 (4 * b + q)).2 (by omega)).trans (r3 q (by omega))) (fun c p q hc hp hq => ((y3 (32 * b + 16 * c + 4 * p + q)).2 (by omega)).trans (r4 c p q hc (by omega) (by omega))) (fun st3 en3 tr3 z1 z2 z3 => ⟨rfl, ?_⟩)
  refine ww_mk I ⟨n, fun q => if q < n then B (n - 1 - q) else 0, fun q => if q < n then E (n - 1 - q) else 0, fun c p q => if p < n ∧ q < n then T c (n - 1 - p) (n - 1 - q) else 0, ⟨⟨o1, o2⟩, fun q => ?_, fun q hq => ?_, fun q => ?_, fun q hq => ?_, fun c p q => ?_, fun c p q hpq => ?_⟩, ⟨pk_us, fun q hq => ?_, fun q hq => ?_, fun c p q hc hp hq => ?_⟩, ⟨pk_us, fun q hq => ?_, fun q hq => ?_, fun c p q hc hp hq => ?_⟩⟩ ww_un (fun j hj => (w1 j).2 (by omega)) (fun j hj => (w2 j).2 (by omega)) (fun j hj => (w3 j).2 (by omega)) ww_un (fun j hj => ((z1 j).2 (by omega)).trans ((y1 j).2 hj)) (fun j hj => ((z2 j).2 (by omega)).trans ((y2 j).2 hj)) (fun j hj => ((z3 j).2 (by omega)).trans ((y3 j).2 hj))
  · dsimp only
    have := o3 (n - 1 - q)
    split <;> omega
  · dsimp only; rw [if_neg (by omega)]
  · dsimp only
    have := o5 (n - 1 - q)
    split <;> omega
  · dsimp only; rw [if_neg (by omega)]
  · dsimp only
    have := o7 c (n - 1 - p) (n - 1 - q)
    split <;> omega
  · dsimp only; rw [if_neg (by omega)]
  · refine ((w1 (4 * a + q)).1 (by omega)).trans ?_
    dsimp only
    rw [if_pos hq, show (4 * a + q) % 4 = q by omega]
  · refine ((w2 (4 * a + q)).1 (by omega)).trans ?_
    dsimp only
    rw [if_pos hq, show (4 * a + q) % 4 = q by omega]
  · refine ((w3 (32 * a + 16 * c + 4 * p + q)).1 (by omega)).trans ?_
    dsimp only
    rw [if_pos ⟨hp, hq⟩, show (32 * a + 16 * c + 4 * p + q) % 32 / 16 = c by omega, show (32 * a + 16 * c + 4 * p + q) % 16 / 4 = p by omega, show (32 * a + 16 * c + 4 * p + q) % 4 = q by omega]
  · dsimp only
    by_cases h : q < n
    · rw [if_pos h]
      refine ((z1 (4 * a + q)).1 (by omega)).trans ?_
      dsimp only
      rw [show (4 * a + q) % 4 = q by omega]
    · rw [if_neg h]
      exact ((z1 (4 * a + q)).2 (by omega)).trans ((y1 (4 * a + q)).1 (by omega))
  · dsimp only
    by_cases h : q < n
    · rw [if_pos h]
      refine ((z2 (4 * a + q)).1 (by omega)).trans ?_
      dsimp only
      rw [show (4 * a + q) % 4 = q by omega]
    · rw [if_neg h]
      exact ((z2 (4 * a + q)).2 (by omega)).trans ((y2 (4 * a + q)).1 (by omega))
  · dsimp only
    by_cases h : p < n ∧ q < n
    · rw [if_pos h]
      refine ((z3 (32 * a + 16 * c + 4 * p + q)).1 (by omega)).trans ?_
      dsimp only
      rw [show (32 * a + 16 * c + 4 * p + q) % 32 / 16 = c by omega, show (32 * a + 16 * c + 4 * p + q) % 16 / 4 = p by omega, show (32 * a + 16 * c + 4 * p + q) % 4 = q by omega]
    · rw [if_neg h]
      exact ((z3 (32 * a + 16 * c + 4 * p + q)).2 (by omega)).trans ((y3 (32 * a + 16 * c + 4 * p + q)).1 (by omega))
end
section
/-! rank, on naturals: two ways to clear below a pivot, one rank -/
def ww_J (u v : Nat) : Nat := u * 2 ^ v.log2 + (v - 2 ^ v.log2)
def ww_tab (B E : Nat → Nat) (T : Nat → Nat → Nat → Nat) (j : Nat) : Nat := ww_wt B E T (ww_J (j / 15 + 1) (j % 15 + 1))
def ww_sw (t : Nat → Nat) (f i : Nat) : Nat → Nat := fun j => if j / 15 = f then t (15 * i + j % 15) else if j / 15 = i then t (15 * f + j % 15) else t j
def ww_cX (t : Nat → Nat) (f c : Nat) : Nat → Nat := fun j => if f < j / 15 ∧ c ≤ j % 15 then (((t j * t (15 * f + c) : Nat) : Int) - ((t (15 * f + j % 15) * t (15 * (j / 15) + c) : Nat) : Int)).emod 997 |>.toNat else t j
def ww_cY (t : Nat → Nat) (f c : Nat) : Nat → Nat := fun j => if f < j / 15 then (t j + (997 - t (15 * (j / 15) + c) * ww_inv (t (15 * f + c)) % 997) * t (15 * f + j % 15)) % 997 else t j
def ww_pv (t : Nat → Nat) (c : Nat) : Nat → Nat → Nat
  | 0, i => i
  | d + 1, i => if t (15 * i + c) = 0 then ww_pv t c d (i + 1) else i
def ww_rX : Nat → Nat → Nat → (Nat → Nat) → Nat
  | 0, _, f, _ => f
  | d + 1, c, f, t => if ww_pv t c (15 - f) f < 15 then ww_rX d (c + 1) (f + 1) (ww_cX (ww_sw t f (ww_pv t c (15 - f) f)) f c) else ww_rX d (c + 1) f t
def ww_rY : Nat → Nat → Nat → (Nat → Nat) → Nat
  | 0, _, f, _ => f
  | d + 1, c, f, t => if ww_pv t c (15 - f) f < 15 then ww_rY d (c + 1) (f + 1) (ww_cY (ww_sw t f (ww_pv t c (15 - f) f)) f c) else ww_rY d (c + 1) f t
theorem ww_pv_le (t : Nat → Nat) (c : Nat) : ∀ d i, i ≤ ww_pv t c d i ∧ ww_pv t c d i ≤ i + d
  | 0, i => by simp [ww_pv]
  | d + 1, i => by
    have := ww_pv_le t c d (i + 1)
    simp only [ww_pv]
    split <;> omega
theorem ww_pv_nz (t : Nat → Nat) (c : Nat) : ∀ d i, ww_pv t c d i < i + d → t (15 * ww_pv t c d i + c) ≠ 0
  | 0, i => by simp [ww_pv]
  | d + 1, i => by
    have := ww_pv_nz t c d (i + 1)
    simp only [ww_pv]
    split
    · intro h
      exact this (by omega)
    · intro _
      assumption
theorem ww_pv_eq {x y : Nat → Nat} {c : Nat} : ∀ d i, (∀ k, i ≤ k → k < i + d → (x (15 * k + c) = 0 ↔ y (15 * k + c) = 0)) → ww_pv x c d i = ww_pv y c d i
  | 0, i, _ => rfl
  | d + 1, i, h => by
    have h0 := h i (by omega) (by omega)
    have h1 := ww_pv_eq d (i + 1) (fun k hk hk2 => h k (by omega) (by omega))
    simp only [ww_pv]
    by_cases z : x (15 * i + c) = 0
    · rw [if_pos z, if_pos (h0.mp z), h1]
    · rw [if_neg z, if_neg (fun w => z (h0.mpr w))]
def ww_V (f c : Nat) (x y : Nat → Nat) : Prop := ∀ i, f ≤ i → i < 15 → ∃ l : Int, ¬ (997 : Int) ∣ l ∧ ∀ k, c ≤ k → k < 15 → (997 : Int) ∣ (x (15 * i + k) : Int) - l * (y (15 * i + k) : Int)
theorem ww_V_z {f c : Nat} {x y : Nat → Nat} (hx : ∀ j, x j < 997) (hy : ∀ j, y j < 997) (V : ww_V f c x y) (hc : c < 15) : ∀ i, f ≤ i → i < 15 → (x (15 * i + c) = 0 ↔ y (15 * i + c) = 0) := by
  intro i h1 h2
  obtain ⟨l, hl, h⟩ := V i h1 h2
  have hk := h c (Nat.le_refl _) hc
  have bx := hx (15 * i + c)
  have bv := hy (15 * i + c)
  constructor
  · intro z
    rw [z] at hk
    have h3 : (997 : Int) ∣ l * (y (15 * i + c) : Int) := by omega
    have := ww_euc h3 hl
    omega
  · intro z
    rw [z] at hk
    simp at hk
    omega
theorem ww_nd {x y : Int} (hx : ¬ (997 : Int) ∣ x) (hy : ¬ (997 : Int) ∣ y) : ¬ (997 : Int) ∣ x * y := fun h => hy (ww_euc h hx)
theorem ww_sw_at (t : Nat → Nat) (f p i k : Nat) (hk : k < 15) : ww_sw t f p (15 * i + k) = t (15 * (if i = f then p else if i = p then f else i) + k) := by
  unfold ww_sw
  rw [show (15 * i + k) / 15 = i by omega, show (15 * i + k) % 15 = k by omega]
  split
  · rfl
  · split
    · rfl
    · rfl
theorem ww_sw_lt {t : Nat → Nat} (h : ∀ j, t j < 997) (f p : Nat) : ∀ j, ww_sw t f p j < 997 := by
  intro j
  unfold ww_sw
  split
  · exact h _
  · split
    · exact h _
    · exact h _
theorem ww_cX_lt {t : Nat → Nat} (h : ∀ j, t j < 997) (f p : Nat) : ∀ j, ww_cX t f p j < 997 := by
  intro j
  unfold ww_cX
  split
  · have := Int.emod_lt_of_pos (((t j * t (15 * f + p) : Nat) : Int) - ((t (15 * f + j % 15) * t (15 * (j / 15) + p) : Nat) : Int)) (show (0 : Int) < 997 by decide)
    have h2 := Int.emod_nonneg (((t j * t (15 * f + p) : Nat) : Int) - ((t (15 * f + j % 15) * t (15 * (j / 15) + p) : Nat) : Int)) (show (997 : Int) ≠ 0 by decide)
    show (_ % 997 : Int).toNat < 997
    omega
  · exact h j
theorem ww_cY_lt {t : Nat → Nat} (h : ∀ j, t j < 997) (f p : Nat) : ∀ j, ww_cY t f p j < 997 := by
  intro j
  unfold ww_cY
  split
  · exact Nat.mod_lt _ (by decide)
  · exact h j
theorem ww_V_sw {f c p : Nat} {x y : Nat → Nat} (V : ww_V f c x y) (hp : f ≤ p) (hp2 : p < 15) : ww_V f c (ww_sw x f p) (ww_sw y f p) := by
  intro i h1 h2
  obtain ⟨l, hl, h⟩ := V (if i = f then p else if i = p then f else i) (by split; omega; split <;> omega) (by split; omega; split <;> omega)
  refine ⟨l, hl, fun k hk hk2 => ?_⟩
  rw [ww_sw_at _ _ _ _ _ hk2, ww_sw_at _ _ _ _ _ hk2]
  exact h k hk hk2
theorem ww_alg (li lf y1 y2 yp yc b a1 a2 a3 a4 a5 a6 a7 a8 : Int) (e : yp * b = 1 + 997 * a8) : (li * y1 + 997 * a1) * (lf * yp + 997 * a3) - (lf * y2 + 997 * a2) * (li * yc + 997 * a4) - 997 * a5 - (li * lf * yp) * (y1 + (997 - (yc * b - 997 * a7)) * y2 - 997 * a6) = 997 * (li * y1 * a3 + lf * yp * a1 + 997 * a1 * a3 - lf * y2 * a4 - li * yc * a2 - 997 * a2 * a4 - a5 + a8 * li * lf * yc * y2 - li * lf * yp * (y2 + a7 * y2 - a6)) := by
  grind
theorem ww_mdq (z : Int) : ∃ t : Int, (((z.emod 997).toNat : Nat) : Int) = z - 997 * t := ⟨z / 997, by
  show (((z % 997).toNat : Nat) : Int) = _
  omega⟩
theorem ww_V_cl {f c : Nat} {x y : Nat → Nat} (hy : ∀ j, y j < 997) (V : ww_V f c x y) (hc : c < 15) (hf : f < 15) (hn : y (15 * f + c) ≠ 0) : ww_V (f + 1) (c + 1) (ww_cX x f c) (ww_cY y f c) := by
  intro i h1 h2
  obtain ⟨li, hli, Hi⟩ := V i (by omega) h2
  obtain ⟨lf, hlf, Hf⟩ := V f (Nat.le_refl _) hf
  have hyp : ¬ (997 : Int) ∣ (y (15 * f + c) : Int) := by
    have := hy (15 * f + c)
    omega
  refine ⟨li * lf * y (15 * f + c), ww_nd (ww_nd hli hlf) hyp, fun k hk hk2 => ?_⟩
  obtain ⟨a1, e1⟩ := Hi k (by omega) hk2
  obtain ⟨a2, e2⟩ := Hf k (by omega) hk2
  obtain ⟨a3, e3⟩ := Hf c (Nat.le_refl _) hc
  obtain ⟨a4, e4⟩ := Hi c (Nat.le_refl _) hc
  have ex : ww_cX x f c (15 * i + k) = ((((x (15 * i + k) * x (15 * f + c) : Nat) : Int) - ((x (15 * f + k) * x (15 * i + c) : Nat) : Int)).emod 997).toNat := by
    unfold ww_cX
    rw [show (15 * i + k) / 15 = i by omega, show (15 * i + k) % 15 = k by omega, if_pos (by omega)]
  have ey : ww_cY y f c (15 * i + k) = (y (15 * i + k) + (997 - y (15 * i + c) * ww_inv (y (15 * f + c)) % 997) * y (15 * f + k)) % 997 := by
    unfold ww_cY
    rw [show (15 * i + k) / 15 = i by omega, show (15 * i + k) % 15 = k by omega, if_pos (by omega)]
  obtain ⟨a5, e5⟩ := ww_mdq (((x (15 * i + k) * x (15 * f + c) : Nat) : Int) - ((x (15 * f + k) * x (15 * i + c) : Nat) : Int))
  obtain ⟨a7, e7⟩ := ww_cg (y (15 * i + c) * ww_inv (y (15 * f + c)))
  obtain ⟨a6, e6⟩ := ww_cg (y (15 * i + k) + (997 - y (15 * i + c) * ww_inv (y (15 * f + c)) % 997) * y (15 * f + k))
  have h8 := ww_inv_tab (y (15 * f + c)) (hy _) (by omega)
  obtain ⟨a8, e8⟩ : ∃ a8 : Int, (y (15 * f + c) : Int) * (ww_inv (y (15 * f + c)) : Int) = 1 + 997 * a8 := by
    refine ⟨((y (15 * f + c) * ww_inv (y (15 * f + c)) / 997 : Nat) : Int), ?_⟩
    rw [← Int.natCast_mul]
    omega
  have e9 : ((997 - y (15 * i + c) * ww_inv (y (15 * f + c)) % 997 : Nat) : Int) = 997 - ((y (15 * i + c) * ww_inv (y (15 * f + c)) % 997 : Nat) : Int) := by omega
  rw [ex, ey, e5, e6, Int.natCast_add, Int.natCast_mul (997 - _), e9, e7]
  simp only [Int.natCast_mul]
  have f1 : (x (15 * i + k) : Int) = li * y (15 * i + k) + 997 * a1 := by omega
  have f2 : (x (15 * f + k) : Int) = lf * y (15 * f + k) + 997 * a2 := by omega
  have f3 : (x (15 * f + c) : Int) = lf * y (15 * f + c) + 997 * a3 := by omega
  have f4 : (x (15 * i + c) : Int) = li * y (15 * i + c) + 997 * a4 := by omega
  rw [f1, f2, f3, f4]
  exact ⟨_, ww_alg li lf _ _ _ _ _ a1 a2 a3 a4 a5 a6 a7 a8 e8⟩
theorem ww_rank : ∀ (d c f : Nat) (x y : Nat → Nat), c + d = 15 → f ≤ c → (∀ j, x j < 997) → (∀ j, y j < 997) → ww_V f c x y → ww_rX d c f x = ww_rY d c f y
  | 0, _, _, _, _, _, _, _, _, _ => rfl
  | d + 1, c, f, x, y, h1, h2, hx, hy, V => by
    have hp : ww_pv x c (15 - f) f = ww_pv y c (15 - f) f := ww_pv_eq _ _ (fun k k1 k2 => ww_V_z hx hy V (by omega) k k1 (by omega))
    have hl := ww_pv_le y c (15 - f) f
    simp only [ww_rX, ww_rY]
    rw [hp]
    by_cases z : ww_pv y c (15 - f) f < 15
    · rw [if_pos z, if_pos z]
      have nz := ww_pv_nz y c (15 - f) f (by omega)
      refine ww_rank d (c + 1) (f + 1) _ _ (by omega) (by omega) (ww_cX_lt (ww_sw_lt hx _ _) _ _) (ww_cY_lt (ww_sw_lt hy _ _) _ _) (ww_V_cl (ww_sw_lt hy _ _) (ww_V_sw V hl.1 z) (by omega) (by omega) ?_)
      rw [ww_sw_at _ _ _ _ _ (by omega), if_pos rfl]
      exact nz
    · rw [if_neg z, if_neg z]
      refine ww_rank d (c + 1) f _ _ (by omega) (by omega) hx hy (fun i i1 i2 => ?_)
      obtain ⟨l, hl, h⟩ := V i i1 i2
      exact ⟨l, hl, fun k k1 k2 => h k (by omega) k2⟩
theorem ww_rank0 (t : Nat → Nat) (h : ∀ j, t j < 997) : ww_rX 15 0 0 t = ww_rY 15 0 0 t :=
  ww_rank 15 0 0 t t (by omega) (by omega) h h (fun i _ _ => ⟨1, by omega, fun k _ _ => ⟨0, by omega⟩⟩)
end
section
/-! rank: the walks -/
theorem ww_Jr : ∀ u, u < 16 → ∀ v, v < 16 → 1 ≤ u → 1 ≤ v → 1 ≤ ww_J u v ∧ ww_J u v < 4096 := by decide +kernel
theorem ww_JX : ∀ u, u < 16 → ∀ v, v < 16 → 1 ≤ v → (nI u <<< (nI v.log2 &&& 31)) + (nI v - ((1 : Int32) <<< (nI v.log2 &&& 31))) = nI (ww_J u v) := by decide +kernel
theorem ww_JY : ∀ u, u < 16 → ∀ v, v < 16 → 1 ≤ v → (nI u <<< (nI v.log2 &&& 31)) ||| (nI v &&& (((1 : Int32) <<< (nI v.log2 &&& 31)) - 1)) = nI (ww_J u v) := by decide +kernel
theorem ww_ixY (r i : Nat) : (15 : Int32) * (nI (r + 1) - 1) + nI (i + 1) - 1 = nI (15 * r + i) := by
  rw [nI_pred, ix_15, ← Nat.add_assoc, nI_pred]
theorem xx_joined {post : Int32 → Prop} (u v : Nat) (hu : u < 16) (hv : v < 16) (h1 : 1 ≤ v) (H : post (nI (ww_J u v))) : wpX_joinedCode post (nI u) (nI v) := by
  refine xx_len v h1 (by omega) (nm_e ?_)
  rw [ww_JX u hu v hv h1]
  exact H
section
variable {a n : Nat} {B E : Nat → Nat} {T : Nat → Nat → Nat → Nat} {sz st en tr : Nat → Int32}
theorem xx_fill {post : SX → Prop} (ha : a < 3) (ok : ww_OK n B E T) (ax : ww_AX a n B E T sz st en tr) (re rn tb : Nat → Int32) (H : ∀ re' rn' tb', (∀ j, j < 225 → tb' j = nI (ww_tab B E T j)) → post (sz, st, en, tr, re', rn', tb')) : wpX_fillTable post (sz, st, en, tr, re, rn, tb) (nI a) := by
  have k2 : ∀ (J2 : Int32 → (Nat → Int32) → (Nat → Int32) → (Nat → Int32) → (Nat → Int32) → (Nat → Int32) → (Nat → Int32) → (Nat → Int32) → Prop) (r : Nat), r < 15 → ∀ tb0, (∀ re' rn' tb', ww_W (fun j => j / 15 = r) (fun j => nI (ww_tab B E T j)) tb0 tb' → J2 (nI (r + 1)) sz st en tr re' rn' tb') → ∀ d i re' rn' tb', i + d = 15 → ww_W (fun j => j / 15 = r ∧ j % 15 < i) (fun j => nI (ww_tab B E T j)) tb0 tb' → wX_fillTable_10 post J2 (nI a) (nI r) (d + 1) (nI i) sz st en tr re' rn' tb' := by
    intro J2 r hr tb0 HJ d
    induction d with
    | zero =>
      intro i re' rn' tb' hi hw
      exact pk_le 15 i (fun _ => nm_r (nI_1 r) (HJ re' rn' tb' (ww_Wi hw (fun j => by omega)))) (fun h => by omega)
    | succ d ih =>
      intro i re' rn' tb' hi hw
      refine pk_le 15 i (fun h => by omega) (fun h => ?_)
      rw [nI_1 r, nI_1 i]
      refine xx_joined (r + 1) (i + 1) (by omega) (by omega) (by omega) ?_
      have hJ := ww_Jr (r + 1) (by omega) (i + 1) (by omega) (by omega) (by omega)
      refine xx_wo ha ok ax re' rn' tb' _ hJ.1 hJ.2 (fun re1 rn1 => ?_)
      refine ww_put (15 * r + i) (ix_15 r i) (by omega) (by decide) (nm_e (ih (i + 1) _ _ _ (by omega) (ww_W1 hw ?_ (fun j => by omega))))
      unfold ww_tab
      rw [show (15 * r + i) / 15 = r by omega, show (15 * r + i) % 15 = i by omega]
  have k1 : ∀ d i re' rn' tb', i + d = 15 → ww_W (fun j => j / 15 < i) (fun j => nI (ww_tab B E T j)) tb tb' → wX_fillTable_2 post (nI a) (d + 1) (nI i) sz st en tr re' rn' tb' := by
    intro d
    induction d with
    | zero =>
      intro i re' rn' tb' hi hw
      exact pk_le 15 i (fun _ => H re' rn' tb' (fun j hj => (hw j).1 (by omega))) (fun h => by omega)
    | succ d ih =>
      intro i re' rn' tb' hi hw
      refine pk_le 15 i (fun h => by omega) (fun h => ⟨16, ?_⟩)
      exact k2 _ i h tb' (fun re1 rn1 tb1 hw1 => ih (i + 1) re1 rn1 tb1 (by omega) (ww_WW hw hw1 (fun j => by omega))) 15 0 re' rn' tb' (by omega) (ww_W0 (fun j => by omega))
  exact ⟨16, k1 15 0 re rn tb (by omega) (ww_W0 (fun j => by omega))⟩
theorem yy_fill {post : Int32 → SY → Prop} (ha : a < 3) (ok : ww_OK n B E T) (ay : ww_AY a n B E T sz st en tr) (re rn tb : Nat → Int32) (H : ∀ re' rn' tb', (∀ j, j < 225 → tb' j = nI (ww_tab B E T j)) → ∃ n86, wY_rank_86 post n86 0 0 sz st en tr re' rn' tb') : ∃ n12, wY_rank_12 post (nI a) n12 1 sz st en tr re rn tb := by
  have k2 : ∀ (J12 : Int32 → (Nat → Int32) → (Nat → Int32) → (Nat → Int32) → (Nat → Int32) → (Nat → Int32) → (Nat → Int32) → (Nat → Int32) → Prop) (r : Nat), r < 15 → ∀ tb0, (∀ re' rn' tb', ww_W (fun j => j / 15 = r) (fun j => nI (ww_tab B E T j)) tb0 tb' → J12 (nI (r + 1 + 1)) sz st en tr re' rn' tb') → ∀ d i re' rn' tb', i + d = 15 → ww_W (fun j => j / 15 = r ∧ j % 15 < i) (fun j => nI (ww_tab B E T j)) tb0 tb' → wY_rank_20 post J12 (nI a) (nI (r + 1)) (d + 1) (nI (i + 1)) sz st en tr re' rn' tb' := by
    intro J12 r hr tb0 HJ d
    induction d with
    | zero =>
      intro i re' rn' tb' hi hw
      exact pk_le 16 (i + 1) (fun _ => nm_r (nI_1 (r + 1)) (HJ re' rn' tb' (ww_Wi hw (fun j => by omega)))) (fun h => by omega)
    | succ d ih =>
      intro i re' rn' tb' hi hw
      refine pk_le 16 (i + 1) (fun h => by omega) (fun h => ?_)
      refine yy_len _ (i + 1) (by omega) (by omega) (nm_r (ww_JY (r + 1) (by omega) (i + 1) (by omega) (by omega)) ?_)
      have hJ := ww_Jr (r + 1) (by omega) (i + 1) (by omega) (by omega) (by omega)
      refine yy_wo ha ok ay re' rn' tb' _ hJ.1 hJ.2 (fun re1 rn1 => ?_)
      refine ww_put (15 * r + i) (ww_ixY r i) (by omega) (by decide) (nm_r (nI_1 (i + 1)) (ih (i + 1) _ _ _ (by omega) (ww_W1 hw ?_ (fun j => by omega))))
      unfold ww_tab
      rw [show (15 * r + i) / 15 = r by omega, show (15 * r + i) % 15 = i by omega]
  have k1 : ∀ d i re' rn' tb', i + d = 15 → ww_W (fun j => j / 15 < i) (fun j => nI (ww_tab B E T j)) tb tb' → wY_rank_12 post (nI a) (d + 1) (nI (i + 1)) sz st en tr re' rn' tb' := by
    intro d
    induction d with
    | zero =>
      intro i re' rn' tb' hi hw
      exact pk_le 16 (i + 1) (fun _ => H re' rn' tb' (fun j hj => (hw j).1 (by omega))) (fun h => by omega)
    | succ d ih =>
      intro i re' rn' tb' hi hw
      refine pk_le 16 (i + 1) (fun h => by omega) (fun h => ⟨16, ?_⟩)
      exact k2 _ i (by omega) tb' (fun re1 rn1 tb1 hw1 => ih (i + 1) re1 rn1 tb1 (by omega) (ww_WW hw hw1 (fun j => by omega))) 15 0 re' rn' tb' (by omega) (ww_W0 (fun j => by omega))
  exact ⟨16, k1 15 0 re rn tb (by omega) (ww_W0 (fun j => by omega))⟩
end
section
variable {sz st en tr re rn : Nat → Int32} {t : Nat → Nat}
theorem xx_pv {post : Int32 → Prop} (tb : Nat → Int32) (ht : ∀ j, t j < 997) (hp : ∀ j, j < 225 → tb j = nI (t j)) (f c : Nat) (hf : f ≤ 15) (hc : c < 15) (H1 : ww_pv t c (15 - f) f < 15 → post (nI (ww_pv t c (15 - f) f))) (H2 : ¬ ww_pv t c (15 - f) f < 15 → post (-1)) : wpX_pivotRow post (sz, st, en, tr, re, rn, tb) (nI f) (nI c) := by
  have key : ∀ d i, i + d = 15 → (ww_pv t c d i < 15 → post (nI (ww_pv t c d i))) → (¬ ww_pv t c d i < 15 → post (-1)) → wX_pivotRow_2 post (nI c) sz st en tr re rn tb (d + 1) (nI i) := by
    intro d
    induction d with
    | zero =>
      intro i hi g1 g2
      refine pk_le 15 i (fun _ => g2 ?_) (fun h => by omega)
      simp only [ww_pv]
      omega
    | succ d ih =>
      intro i hi g1 g2
      have hb := ht (15 * i + c)
      refine pk_le 15 i (fun h => by omega) (fun h => ⟨pk_in (15 * i + c) 225 (by omega) (ix_15 i c), ?_⟩)
      refine pk_eq (t (15 * i + c)) 0 (fun z => nm_r (nI_1 i) (ih (i + 1) (by omega) ?_ ?_)) (fun z => ?_) (hx := ww_rd (15 * i + c) (ix_15 i c) (by omega) (hp _ (by omega)))
      · simp only [ww_pv, if_pos z] at g1
        exact g1
      · simp only [ww_pv, if_pos z] at g2
        exact g2
      · simp only [ww_pv, if_neg z] at g1
        exact g1 h
  exact ⟨15 - f + 1, key (15 - f) f (by omega) H1 H2⟩
theorem yy_pv {post : Int32 → Prop} (tb : Nat → Int32) (ht : ∀ j, t j < 997) (hp : ∀ j, j < 225 → tb j = nI (t j)) (f c : Nat) (hf : f ≤ 15) (hc : c < 15) (H1 : ww_pv t c (15 - f) f < 15 → post (nI (ww_pv t c (15 - f) f))) (H2 : ¬ ww_pv t c (15 - f) f < 15 → post (-1)) : wpY_pivot post (sz, st, en, tr, re, rn, tb) (nI f) (nI c) := by
  have key : ∀ d i, i + d = 15 → (ww_pv t c d i < 15 → post (nI (ww_pv t c d i))) → (¬ ww_pv t c d i < 15 → post (-1)) → wY_pivot_2 post (nI c) sz st en tr re rn tb (d + 1) (nI i) := by
    intro d
    induction d with
    | zero =>
      intro i hi g1 g2
      refine pk_le 15 i (fun _ => g2 ?_) (fun h => by omega)
      simp only [ww_pv]
      omega
    | succ d ih =>
      intro i hi g1 g2
      have hb := ht (15 * i + c)
      refine pk_le 15 i (fun h => by omega) (fun h => ⟨pk_in (15 * i + c) 225 (by omega) (ix_15 i c), ?_⟩)
      refine pk_eq (t (15 * i + c)) 0 (fun z => nm_r (nI_1 i) (ih (i + 1) (by omega) ?_ ?_)) (fun z => ?_) (hx := ww_rd (15 * i + c) (ix_15 i c) (by omega) (hp _ (by omega)))
      · simp only [ww_pv, if_pos z] at g1
        exact g1
      · simp only [ww_pv, if_pos z] at g2
        exact g2
      · simp only [ww_pv, if_neg z] at g1
        exact g1 h
  exact ⟨15 - f + 1, key (15 - f) f (by omega) H1 H2⟩
/-- one column of a swap -/
theorem ww_swk {tb : Nat → Int32} {f i k : Nat} (hf : f < 15) (hi : i < 15) (hk : k < 15) (h : ∀ j, j < 225 → tb j = nI (if j % 15 < k then ww_sw t f i j else t j)) : ∀ j, j < 225 → upd (upd tb (15 * f + k) (nI (t (15 * i + k)))) (15 * i + k) (nI (t (15 * f + k))) j = nI (if j % 15 < k + 1 then ww_sw t f i j else t j) := by
  intro j hj
  by_cases e1 : j = 15 * i + k
  · rw [e1, pk_us, if_pos (by omega), ww_sw_at _ _ _ _ _ hk]
    by_cases e2 : i = f
    · rw [if_pos e2, e2]
    · rw [if_neg e2, if_pos rfl]
  · rw [pk_un e1]
    by_cases e2 : j = 15 * f + k
    · rw [e2, pk_us, if_pos (by omega), ww_sw_at _ _ _ _ _ hk, if_pos rfl]
    · rw [pk_un e2, h j hj]
      by_cases e3 : j % 15 = k
      · rw [if_neg (by omega), if_pos (by omega)]
        unfold ww_sw
        rw [if_neg (by omega), if_neg (by omega)]
      · by_cases e4 : j % 15 < k
        · rw [if_pos e4, if_pos (by omega)]
        · rw [if_neg e4, if_neg (by omega)]
theorem xx_sw {post : SX → Prop} (tb : Nat → Int32) (hp : ∀ j, j < 225 → tb j = nI (t j)) (f i : Nat) (hf : f < 15) (hi : i < 15) (H : ∀ tb', (∀ j, j < 225 → tb' j = nI (ww_sw t f i j)) → post (sz, st, en, tr, re, rn, tb')) : wpX_swapRows post (sz, st, en, tr, re, rn, tb) (nI f) (nI i) := by
  have key : ∀ d k tb', k + d = 15 → (∀ j, j < 225 → tb' j = nI (if j % 15 < k then ww_sw t f i j else t j)) → wX_swapRows_2 post (nI f) (nI i) (d + 1) (nI k) sz st en tr re rn tb' := by
    intro d
    induction d with
    | zero =>
      intro k tb' hk h
      refine pk_le 15 k (fun _ => H tb' (fun j hj => ?_)) (fun h => by omega)
      have := h j hj
      rw [if_pos (by omega)] at this
      exact this
    | succ d ih =>
      intro k tb' hk h
      have v1 : vp_in (15 * nI f + nI k) 225 := pk_in (15 * f + k) 225 (by omega) (ix_15 f k)
      have v2 : vp_in (15 * nI i + nI k) 225 := pk_in (15 * i + k) 225 (by omega) (ix_15 i k)
      have t1 : tb' (15 * f + k) = nI (t (15 * f + k)) := by
        have := h (15 * f + k) (by omega)
        rw [if_neg (by omega)] at this
        exact this
      have t2 : tb' (15 * i + k) = nI (t (15 * i + k)) := by
        have := h (15 * i + k) (by omega)
        rw [if_neg (by omega)] at this
        exact this
      refine pk_le 15 k (fun h => by omega) (fun _ => ⟨v1, nm_r (ww_rd (15 * f + k) (ix_15 f k) (by omega) t1) ⟨v2, ?_⟩⟩)
      rw [ww_rd (15 * i + k) (ix_15 i k) (by omega) t2]
      refine ww_put (15 * f + k) (ix_15 f k) (by omega) (by decide) (ww_put (15 * i + k) (ix_15 i k) (by omega) (by decide) (nm_r (nI_1 k) (ih (k + 1) _ (by omega) ?_)))
      exact ww_swk hf hi (by omega) h
  exact ⟨16, key 15 0 tb (by omega) (fun j hj => by rw [if_neg (by omega)]; exact hp j hj)⟩
theorem yy_sw {post : SY → Prop} (tb : Nat → Int32) (hp : ∀ j, j < 225 → tb j = nI (t j)) (f i : Nat) (hf : f < 15) (hi : i < 15) (H : ∀ tb', (∀ j, j < 225 → tb' j = nI (ww_sw t f i j)) → post (sz, st, en, tr, re, rn, tb')) : wpY_exchange post (sz, st, en, tr, re, rn, tb) (nI f) (nI i) := by
  have key : ∀ d k tb', k + d = 15 → (∀ j, j < 225 → tb' j = nI (if j % 15 < k then ww_sw t f i j else t j)) → wY_exchange_2 post (nI f) (nI i) (d + 1) (nI k) sz st en tr re rn tb' := by
    intro d
    induction d with
    | zero =>
      intro k tb' hk h
      refine pk_le 15 k (fun _ => H tb' (fun j hj => ?_)) (fun h => by omega)
      have := h j hj
      rw [if_pos (by omega)] at this
      exact this
    | succ d ih =>
      intro k tb' hk h
      have v1 : vp_in (15 * nI f + nI k) 225 := pk_in (15 * f + k) 225 (by omega) (ix_15 f k)
      have v2 : vp_in (15 * nI i + nI k) 225 := pk_in (15 * i + k) 225 (by omega) (ix_15 i k)
      have t1 : tb' (15 * f + k) = nI (t (15 * f + k)) := by
        have := h (15 * f + k) (by omega)
        rw [if_neg (by omega)] at this
        exact this
      have t2 : tb' (15 * i + k) = nI (t (15 * i + k)) := by
        have := h (15 * i + k) (by omega)
        rw [if_neg (by omega)] at this
        exact this
      refine pk_le 15 k (fun h => by omega) (fun _ => ⟨v1, nm_r (ww_rd (15 * f + k) (ix_15 f k) (by omega) t1) ⟨v2, ?_⟩⟩)
      rw [ww_rd (15 * i + k) (ix_15 i k) (by omega) t2]
      refine ww_put (15 * f + k) (ix_15 f k) (by omega) (by decide) (ww_put (15 * i + k) (ix_15 i k) (by omega) (by decide) (nm_r (nI_1 k) (ih (k + 1) _ (by omega) ?_)))
      exact ww_swk hf hi (by omega) h
  exact ⟨16, key 15 0 tb (by omega) (fun j hj => by rw [if_neg (by omega)]; exact hp j hj)⟩
theorem ww_pr {x y : Nat} (hx : x < 997) (hy : y < 997) : x * y ≤ 996 * 996 := Nat.mul_le_mul (Nat.le_of_lt_succ hx) (Nat.le_of_lt_succ hy)
theorem xx_cl {post : SX → Prop} (tb : Nat → Int32) (ht : ∀ j, t j < 997) (hp : ∀ j, j < 225 → tb j = nI (t j)) (f c : Nat) (hf : f < 15) (hc : c < 15) (H : ∀ tb', (∀ j, j < 225 → tb' j = nI (ww_cX t f c j)) → post (sz, st, en, tr, re, rn, tb')) : wpX_clearBelow post (sz, st, en, tr, re, rn, tb) (nI f) (nI c) := by
  have k2 : ∀ (J17 : Int32 → (Nat → Int32) → (Nat → Int32) → (Nat → Int32) → (Nat → Int32) → (Nat → Int32) → (Nat → Int32) → (Nat → Int32) → Prop) (r : Nat), f < r → r < 15 → ∀ tb0, (∀ k, k < 15 → tb0 (15 * r + k) = nI (t (15 * r + k)) ∧ tb0 (15 * f + k) = nI (t (15 * f + k))) → (∀ tb', ww_W (fun j => j / 15 = r ∧ c ≤ j % 15) (fun j => nI (ww_cX t f c j)) tb0 tb' → J17 (nI (r + 1)) sz st en tr re rn tb') → ∀ d k tb', k + d = 15 → c ≤ k → ww_W (fun j => j / 15 = r ∧ c ≤ j % 15 ∧ j % 15 < k) (fun j => nI (ww_cX t f c j)) tb0 tb' → wX_clearBelow_41 post J17 (nI f) (nI c) (nI (t (15 * f + c))) (nI r) (nI (t (15 * r + c))) (d + 1) (nI k) sz st en tr re rn tb' := by
    intro J17 r hr hr2 tb0 h0 HJ d
    induction d with
    | zero =>
      intro k tb' hk hck hw
      exact pk_le 15 k (fun _ => nm_r (nI_1 r) (HJ tb' (ww_Wi hw (fun j => by omega)))) (fun h => by omega)
    | succ d ih =>
      intro k tb' hk hck hw
      have b1 := ww_pr (ht (15 * r + k)) (ht (15 * f + c))
      have b2 := ww_pr (ht (15 * f + k)) (ht (15 * r + c))
      have t1 : tb' (15 * r + k) = nI (t (15 * r + k)) := ((hw _).2 (by omega)).trans (h0 k (by omega)).1
      have t2 : tb' (15 * f + k) = nI (t (15 * f + k)) := ((hw _).2 (by omega)).trans (h0 k (by omega)).2
      have v1 : vp_in (15 * nI r + nI k) 225 := pk_in (15 * r + k) 225 (by omega) (ix_15 r k)
      have v2 : vp_in (15 * nI f + nI k) 225 := pk_in (15 * f + k) 225 (by omega) (ix_15 f k)
      refine pk_le 15 k (fun h => by omega) (fun h => ⟨v1, nm_r (e' := nI (t (15 * r + k) * t (15 * f + c))) (by rw [ww_rd (15 * r + k) (ix_15 r k) (by omega) t1, pk_mul]) ⟨v2, nm_r (e' := nI (t (15 * f + k) * t (15 * r + c))) (by rw [ww_rd (15 * f + k) (ix_15 f k) (by omega) t2, pk_mul]) ?_⟩⟩)
      refine xx_residue _ ?_
      refine ww_put (15 * r + k) (ix_15 r k) (by omega) (by decide) (nm_r (nI_1 k) (ih (k + 1) _ (by omega) (by omega) (ww_W1 hw ?_ (fun j => by omega))))
      apply congrArg nI
      unfold ww_md ww_cX
      rw [show (15 * r + k) / 15 = r by omega, show (15 * r + k) % 15 = k by omega, if_pos (by omega), pk_sub_toInt (by omega) (by omega)]
      rfl
  have k1 : ∀ d r tb', r + d = 15 → f < r → ww_W (fun j => f < j / 15 ∧ j / 15 < r ∧ c ≤ j % 15) (fun j => nI (ww_cX t f c j)) tb tb' → wX_clearBelow_17 post (nI f) (nI c) (nI (t (15 * f + c))) (d + 1) (nI r) sz st en tr re rn tb' := by
    intro d
    induction d with
    | zero =>
      intro r tb' hr hfr hw
      refine pk_le 15 r (fun _ => H tb' (fun j hj => ?_)) (fun h => by omega)
      by_cases z : f < j / 15 ∧ c ≤ j % 15
      · exact (hw j).1 (by omega)
      · rw [(hw j).2 (by omega), hp j hj]
        unfold ww_cX
        rw [if_neg z]
    | succ d ih =>
      intro r tb' hr hfr hw
      have t1 : ∀ k, k < 15 → tb' (15 * r + k) = nI (t (15 * r + k)) := fun k hk => ((hw _).2 (by omega)).trans (hp _ (by omega))
      have t2 : ∀ k, k < 15 → tb' (15 * f + k) = nI (t (15 * f + k)) := fun k hk => ((hw _).2 (by omega)).trans (hp _ (by omega))
      refine pk_le 15 r (fun h => by omega) (fun h => ⟨pk_in (15 * r + c) 225 (by omega) (ix_15 r c), nm_r (ww_rd (15 * r + c) (ix_15 r c) (by omega) (t1 c hc)) ⟨15 - c + 1, ?_⟩⟩)
      exact k2 _ r hfr h tb' (fun k hk => ⟨t1 k hk, t2 k hk⟩) (fun tb1 hw1 => ih (r + 1) tb1 (by omega) (by omega) (ww_WW hw hw1 (fun j => by omega))) (15 - c) c tb' (by omega) (Nat.le_refl _) (ww_W0 (fun j => by omega))
  refine ⟨pk_in (15 * f + c) 225 (by omega) (ix_15 f c), nm_r (ww_rd (15 * f + c) (ix_15 f c) (by omega) (hp _ (by omega))) (nm_r (nI_1 f) ⟨15 - (f + 1) + 1, ?_⟩)⟩
  exact k1 (15 - (f + 1)) (f + 1) tb (by omega) (by omega) (ww_W0 (fun j => by omega))
theorem ww_inv1 {v k : Nat} (hk : k < 997) (hv : v < 997) (h1 : 1 ≤ v) (h : v * k % 997 = 1) : k = ww_inv v := by
  have h2 := ww_inv_tab v hv h1
  have h3 := ww_inv_lt v
  have e1 : (k * (v * ww_inv v)) % 997 = k := by
    rw [Nat.mul_mod, h2, Nat.mul_one, Nat.mod_mod, Nat.mod_eq_of_lt hk]
  have e2 : (ww_inv v * (v * k)) % 997 = ww_inv v := by
    rw [Nat.mul_mod, h, Nat.mul_one, Nat.mod_mod, Nat.mod_eq_of_lt h3]
  have e3 : k * (v * ww_inv v) = ww_inv v * (v * k) := by
    rw [Nat.mul_comm k, Nat.mul_assoc, Nat.mul_left_comm]
  rw [e3, e2] at e1
  exact e1.symm
theorem yy_inv {post : Int32 → Prop} (tb : Nat → Int32) (v : Nat) (hv : v < 997) (h1 : 1 ≤ v) (H : post (nI (ww_inv v))) : wpY_inverse post (sz, st, en, tr, re, rn, tb) (nI v) := by
  have hl := ww_inv_lt v
  have hp : 1 ≤ ww_inv v := by
    have := ww_inv_tab v hv h1
    cases e : ww_inv v with
    | zero => rw [e] at this; simp at this
    | succ m => omega
  have key : ∀ d i, i + d = ww_inv v → 1 ≤ i → wY_inverse_2 post (nI v) sz st en tr re rn tb (d + 1) (nI i) := by
    intro d
    induction d with
    | zero =>
      intro i hi hi1
      have e : i = ww_inv v := by omega
      have b := ww_pr hv (show i < 997 by omega)
      refine pk_le 997 i (fun h => by omega) (fun h => ⟨ww_ne997, ?_⟩)
      refine pk_eq (v * i % 997) 1 (fun _ => by rw [e]; exact H) (fun z => (z (by rw [e]; exact ww_inv_tab v hv h1)).elim) (hx := by rw [pk_mul, ww_rem _ (by omega)])
    | succ d ih =>
      intro i hi hi1
      have b := ww_pr hv (show i < 997 by omega)
      refine pk_le 997 i (fun h => by omega) (fun h => ⟨ww_ne997, ?_⟩)
      refine pk_eq (v * i % 997) 1 (fun z => by have := ww_inv1 h hv h1 z; omega) (fun z => nm_r (nI_1 i) (ih (i + 1) (by omega) (by omega))) (hx := by rw [pk_mul, ww_rem _ (by omega)])
  exact ⟨ww_inv v - 1 + 1, key (ww_inv v - 1) 1 (by omega) (by omega)⟩
theorem ww_997s {x : Nat} (h : x ≤ 997) : (997 : Int32) - nI x = nI (997 - x) := pk_sub (a := 997) h
theorem yy_cl {post : SY → Prop} (tb : Nat → Int32) (ht : ∀ j, t j < 997) (hp : ∀ j, j < 225 → tb j = nI (t j)) (f c : Nat) (hf : f < 15) (hc : c < 15) (hn : t (15 * f + c) ≠ 0) (H : ∀ tb', (∀ j, j < 225 → tb' j = nI (ww_cY t f c j)) → post (sz, st, en, tr, re, rn, tb')) : wpY_clear post (sz, st, en, tr, re, rn, tb) (nI f) (nI c) := by
  have hil := ww_inv_lt (t (15 * f + c))
  have k2 : ∀ (J21 : Int32 → (Nat → Int32) → (Nat → Int32) → (Nat → Int32) → (Nat → Int32) → (Nat → Int32) → (Nat → Int32) → (Nat → Int32) → Prop) (r : Nat), f < r → r < 15 → ∀ tb0, (∀ k, k < 15 → tb0 (15 * r + k) = nI (t (15 * r + k)) ∧ tb0 (15 * f + k) = nI (t (15 * f + k))) → (∀ tb', ww_W (fun j => j / 15 = r) (fun j => nI (ww_cY t f c j)) tb0 tb' → J21 (nI (r + 1)) sz st en tr re rn tb') → ∀ d k tb', k + d = 15 → ww_W (fun j => j / 15 = r ∧ j % 15 < k) (fun j => nI (ww_cY t f c j)) tb0 tb' → wY_clear_51 post J21 (nI f) (nI c) (nI (ww_inv (t (15 * f + c)))) (nI r) (nI (t (15 * r + c) * ww_inv (t (15 * f + c)) % 997)) (d + 1) (nI k) sz st en tr re rn tb' := by
    intro J21 r hr hr2 tb0 h0 HJ d
    induction d with
    | zero =>
      intro k tb' hk hw
      exact pk_le 15 k (fun _ => nm_r (nI_1 r) (HJ tb' (ww_Wi hw (fun j => by omega)))) (fun h => by omega)
    | succ d ih =>
      intro k tb' hk hw
      have b0 := ht (15 * r + k)
      have b2 : (997 - t (15 * r + c) * ww_inv (t (15 * f + c)) % 997) * t (15 * f + k) ≤ 997 * 996 := Nat.mul_le_mul (Nat.sub_le _ _) (Nat.le_of_lt_succ (ht _))
      have t1 : tb' (15 * r + k) = nI (t (15 * r + k)) := ((hw _).2 (by omega)).trans (h0 k (by omega)).1
      have t2 : tb' (15 * f + k) = nI (t (15 * f + k)) := ((hw _).2 (by omega)).trans (h0 k (by omega)).2
      have v1 : vp_in (15 * nI r + nI k) 225 := pk_in (15 * r + k) 225 (by omega) (ix_15 r k)
      have v2 : vp_in (15 * nI f + nI k) 225 := pk_in (15 * f + k) 225 (by omega) (ix_15 f k)
      refine pk_le 15 k (fun h => by omega) (fun h => ⟨v1, v2, ww_ne997, ?_⟩)
      refine ww_put (15 * r + k) (ix_15 r k) (by omega) (by decide) (nm_r (nI_1 k) (ih (k + 1) _ (by omega) (ww_W1 hw ?_ (fun j => by omega))))
      rw [ww_rd (15 * r + k) (ix_15 r k) (by omega) t1, ww_rd (15 * f + k) (ix_15 f k) (by omega) t2, ww_997s (by omega), pk_mul, nI_add, ww_rem _ (by omega)]
      unfold ww_cY
      rw [show (15 * r + k) / 15 = r by omega, show (15 * r + k) % 15 = k by omega, if_pos hr]
  have k1 : ∀ d r tb', r + d = 15 → f < r → ww_W (fun j => f < j / 15 ∧ j / 15 < r) (fun j => nI (ww_cY t f c j)) tb tb' → wY_clear_21 post (nI f) (nI c) (nI (ww_inv (t (15 * f + c)))) (d + 1) (nI r) sz st en tr re rn tb' := by
    intro d
    induction d with
    | zero =>
      intro r tb' hr hfr hw
      refine pk_le 15 r (fun _ => H tb' (fun j hj => ?_)) (fun h => by omega)
      by_cases z : f < j / 15
      · exact (hw j).1 (by omega)
      · rw [(hw j).2 (by omega), hp j hj]
        unfold ww_cY
        rw [if_neg z]
    | succ d ih =>
      intro r tb' hr hfr hw
      have b1 := ww_pr (ht (15 * r + c)) hil
      have t1 : ∀ k, k < 15 → tb' (15 * r + k) = nI (t (15 * r + k)) := fun k hk => ((hw _).2 (by omega)).trans (hp _ (by omega))
      have t2 : ∀ k, k < 15 → tb' (15 * f + k) = nI (t (15 * f + k)) := fun k hk => ((hw _).2 (by omega)).trans (hp _ (by omega))
      refine pk_le 15 r (fun h => by omega) (fun h => ⟨pk_in (15 * r + c) 225 (by omega) (ix_15 r c), ww_ne997, nm_r (by rw [ww_rd (15 * r + c) (ix_15 r c) (by omega) (t1 c hc), pk_mul, ww_rem _ (by omega)]) ⟨16, ?_⟩⟩)
      exact k2 _ r hfr h tb' (fun k hk => ⟨t1 k hk, t2 k hk⟩) (fun tb1 hw1 => ih (r + 1) tb1 (by omega) (by omega) (ww_WW hw hw1 (fun j => by omega))) 15 0 tb' (by omega) (ww_W0 (fun j => by omega))
  refine ⟨pk_in (15 * f + c) 225 (by omega) (ix_15 f c), ?_⟩
  rw [ww_rd (15 * f + c) (ix_15 f c) (by omega) (hp _ (by omega))]
  refine yy_inv tb (t (15 * f + c)) (ht _) (by omega) (nm_r (nI_1 f) ⟨15 - (f + 1) + 1, ?_⟩)
  exact k1 (15 - (f + 1)) (f + 1) tb (by omega) (by omega) (ww_W0 (fun j => by omega))
end
section
variable {sz st en tr re rn : Nat → Int32}
theorem xx_tr {post : Int32 → SX → Prop} : ∀ (d c f : Nat) (t : Nat → Nat) (tb : Nat → Int32), c + d = 15 → f ≤ c → (∀ j, t j < 997) → (∀ j, j < 225 → tb j = nI (t j)) → (∀ tb', post (nI (ww_rX d c f t)) (sz, st, en, tr, re, rn, tb')) → wX_tableRank_4 post (d + 1) (nI f) (nI c) sz st en tr re rn tb := by
  intro d
  induction d with
  | zero =>
    intro c f t tb hd hfc ht hp H
    exact pk_le 15 c (fun _ => H tb) (fun h => by omega)
  | succ d ih =>
    intro c f t tb hd hfc ht hp H
    have hl := ww_pv_le t c (15 - f) f
    refine pk_le 15 c (fun h => by omega) (fun h => ?_)
    simp only [ww_rX] at H
    refine xx_pv tb ht hp f c (by omega) h (fun z => ?_) (fun z => ?_)
    · refine br_f (nI_pos (by omega)) ?_
      refine xx_sw tb hp f _ (by omega) z (fun tb1 hp1 => ?_)
      refine xx_cl tb1 (ww_sw_lt ht _ _) hp1 f c (by omega) h (fun tb2 hp2 => ?_)
      refine nm_r (nI_1 f) (nm_r (nI_1 c) (ih (c + 1) (f + 1) _ tb2 (by omega) (by omega) (ww_cX_lt (ww_sw_lt ht _ _) _ _) hp2 ?_))
      rw [if_pos z] at H
      exact H
    · refine br_t (by decide) ?_
      refine nm_r (nI_1 c) (ih (c + 1) f t tb (by omega) (by omega) ht hp ?_)
      rw [if_neg z] at H
      exact H
theorem yy_tr {post : Int32 → SY → Prop} : ∀ (d c f : Nat) (t : Nat → Nat) (tb : Nat → Int32), c + d = 15 → f ≤ c → (∀ j, t j < 997) → (∀ j, j < 225 → tb j = nI (t j)) → (∀ tb', post (nI (ww_rY d c f t)) (sz, st, en, tr, re, rn, tb')) → wY_rank_86 post (d + 1) (nI f) (nI c) sz st en tr re rn tb := by
  intro d
  induction d with
  | zero =>
    intro c f t tb hd hfc ht hp H
    exact pk_le 15 c (fun _ => H tb) (fun h => by omega)
  | succ d ih =>
    intro c f t tb hd hfc ht hp H
    have hl := ww_pv_le t c (15 - f) f
    refine pk_le 15 c (fun h => by omega) (fun h => ?_)
    simp only [ww_rY] at H
    refine yy_pv tb ht hp f c (by omega) h (fun z => ?_) (fun z => ?_)
    · have nz := ww_pv_nz t c (15 - f) f (by omega)
      refine br_f (nI_pos (by omega)) ?_
      refine yy_sw tb hp f _ (by omega) z (fun tb1 hp1 => ?_)
      refine yy_cl tb1 (ww_sw_lt ht _ _) hp1 f c (by omega) h (by rw [ww_sw_at _ _ _ _ _ h, if_pos rfl]; exact nz) (fun tb2 hp2 => ?_)
      refine nm_r (nI_1 f) (nm_r (nI_1 c) (ih (c + 1) (f + 1) _ tb2 (by omega) (by omega) (ww_cY_lt (ww_sw_lt ht _ _) _ _) hp2 ?_))
      rw [if_pos z] at H
      exact H
    · refine br_t (by decide) ?_
      refine nm_r (nI_1 c) (ih (c + 1) f t tb (by omega) (by omega) ht hp ?_)
      rw [if_neg z] at H
      exact H
end
theorem i_vc_rank {k : Nat} {u : SX} {v : SY} (I : i_Rel k u v) (hk : k + 5 ≤ 2560) (v1 : Int32) : wpX_rank (fun r u' => wpY_rank (fun r' v' => r' = r ∧ i_Rel (k + 5) u' v') v v1) u v1 := by
  obtain ⟨xs, xb, xe, xt, xr, xn, xg⟩ := u
  obtain ⟨ys, yb, ye, yt, yr, yn, yg⟩ := v
  unfold wpX_rank wpY_rank
  dsimp only
  rcases ww_cs v1 with h | ⟨a, ha, rfl⟩
  · refine xx_auB _ h ?_
    refine br_t rfl ?_
    refine yy_bdB _ _ h ?_
    exact br_f (by decide) ⟨rfl, I⟩
  obtain ⟨n, B, E, T, ok, ax, ay⟩ := I a ha
  have ht : ∀ j, ww_tab B E T j < 997 := fun j => ww_wt_lt _ _ _ _
  refine xx_au a ha ?_
  refine br_f (by decide) ?_
  refine xx_fill ha ok ax _ _ _ (fun re rn tb hp => ?_)
  refine ⟨16, ?_⟩
  refine xx_tr 15 0 0 (ww_tab B E T) tb (by omega) (by omega) ht hp (fun tb1 => ?_)
  refine yy_bd _ a ha ?_
  refine br_t rfl ?_
  refine yy_fill ha ok ay _ _ _ (fun re2 rn2 tb2 hp2 => ?_)
  refine ⟨16, ?_⟩
  refine yy_tr 15 0 0 (ww_tab B E T) tb2 (by omega) (by omega) ht hp2 (fun tb3 => ?_)
  exact ⟨congrArg nI (ww_rank0 _ ht).symm, I⟩
end
