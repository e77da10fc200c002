section
theorem pk_us {f : Nat → Int32} {k : Nat} {x : Int32} : upd f k x k = x := if_pos rfl
theorem pk_un {f : Nat → Int32} {k j : Nat} {x : Int32} (h : j ≠ k) : upd f k x j = f j := if_neg h
theorem pk_sub {a b : Nat} (h : b ≤ a) : nI a - nI b = nI (a - b) := by
  obtain ⟨c, rfl⟩ : ∃ c, a = c + b := ⟨a - b, by omega⟩
  rw [← nI_add, Int32.add_sub_cancel, Nat.add_sub_cancel]
theorem pk_m1 (n : Nat) : nI (n + 1) + (-1) = nI n := by
  rw [← nI_1, Int32.add_assoc, show (1 : Int32) + (-1) = 0 from rfl, Int32.add_zero]
theorem pk_mul (a b : Nat) : nI a * nI b = nI (a * b) := (Int32.ofNat_mul a b).symm
theorem pk_div {a d : Nat} (ha : a < 2 ^ 31) (h0 : 0 < d) (hd : d < 2 ^ 31) : nI a / nI d = nI (a / d) := by
  apply Int32.toInt_inj.mp
  rw [lg_idiv_nonneg (by rw [nI_toInt ha]; omega) (by rw [nI_toInt hd]; omega), nI_toInt ha, nI_toInt hd, nI_toInt (Nat.lt_of_le_of_lt (Nat.div_le_self a d) ha)]
  first | rfl | exact (Int.natCast_ediv _ _).symm
theorem pk_rem {a d : Nat} (ha : a < 2 ^ 31) (h0 : 0 < d) (hd : d < 2 ^ 31) : nI a - nI a / nI d * nI d = nI (a % d) := by
  rw [pk_div ha h0 hd, pk_mul, pk_sub (Nat.div_mul_le_self a d)]
  exact congrArg nI (by have := Nat.div_add_mod' a d; omega)
theorem pk_sub_toInt {a b : Nat} (ha : a < 2 ^ 30) (hb : b < 2 ^ 30) : (nI a - nI b).toInt = (a : Int) - b := by
  rw [Int32.toInt_sub, nI_toInt (by omega), nI_toInt (by omega)]
  exact Int.bmod_eq_of_le (by omega) (by omega)
theorem pk_sneg {a b : Nat} (hb : b < 2 ^ 30) (h : a < b) : nI a - nI b < 0 := by
  rw [Int32.lt_iff_toInt_lt, pk_sub_toInt (by omega) hb, show (0 : Int32).toInt = 0 from by decide]
  omega
theorem pk_ix (x : Int32) {n : Nat} (hn : n < 2 ^ 31) : x < 0 ∨ nI n ≤ x ∨ ∃ j : Nat, j < n ∧ x = nI j := by
  by_cases h : x < 0
  · exact Or.inl h
  · obtain ⟨j, hj, rfl⟩ := nI_of h
    by_cases h2 : j < n
    · exact Or.inr (Or.inr ⟨j, h2, rfl⟩)
    · exact Or.inr (Or.inl (nI_le (by omega) hj))
theorem pk_le {x y : Int32} {A B : Prop} (a b : Nat) (f : a ≤ b → A) (g : b < a → B) (hx : x = nI a := by rfl) (hy : y = nI b := by rfl) (ha : a < 2 ^ 31 := by omega) (hb : b < 2 ^ 31 := by omega) : (x ≤ y → A) ∧ (¬ x ≤ y → B) := by
  subst hx hy
  rw [nI_leI ha hb]
  exact ⟨f, fun z => g (by omega)⟩
theorem pk_lt {x y : Int32} {A B : Prop} (a b : Nat) (f : a < b → A) (g : b ≤ a → B) (hx : x = nI a := by rfl) (hy : y = nI b := by rfl) (ha : a < 2 ^ 31 := by omega) (hb : b < 2 ^ 31 := by omega) : (x < y → A) ∧ (¬ x < y → B) := by
  subst hx hy
  rw [nI_ltI ha hb]
  exact ⟨f, fun z => g (by omega)⟩
theorem pk_eq {x y : Int32} {A B : Prop} (a b : Nat) (f : a = b → A) (g : a ≠ b → B) (hx : x = nI a := by rfl) (hy : y = nI b := by rfl) (ha : a < 2 ^ 31 := by omega) (hb : b < 2 ^ 31 := by omega) : (x = y → A) ∧ (¬ x = y → B) := by
  subst hx hy
  rw [nI_eq ha hb]
  exact ⟨f, g⟩
theorem pk_in {x : Int32} (n N : Nat) (h : n < N) (hx : x = nI n := by rfl) (hN : N < 2 ^ 31 := by omega) : vp_in x N := by
  subst hx
  exact vp_in_nI h hN
theorem pk_cl {x : Int32} (n : Nat) (hx : x = nI n := by rfl) (h : n < 2 ^ 31 := by omega) : x.toNatClampNeg = n := by
  subst hx
  exact nI_clamp h
theorem pk_tn {n : Nat} (h : n < 2 ^ 32) : (nI n).toBitVec.toNat = n := Nat.mod_eq_of_lt h
theorem pk_and (x : Int32) {m : Int32} (k : Nat) (hm : m.toBitVec.toNat = 2 ^ k - 1) : x &&& m = nI (x.toBitVec.toNat % 2 ^ k) := by
  apply Int32.toBitVec_inj.mp
  apply BitVec.eq_of_toNat_eq
  rw [Int32.toBitVec_and, BitVec.toNat_and, hm, Nat.and_two_pow_sub_one_eq_mod]
  show _ = (BitVec.ofNat 32 _).toNat
  rw [BitVec.toNat_ofNat]
  exact (Nat.mod_eq_of_lt (Nat.lt_of_le_of_lt (Nat.mod_le _ _) x.toBitVec.isLt)).symm
theorem pk_andN {n : Nat} (h : n < 2 ^ 32) {m : Int32} (k : Nat) (hm : m.toBitVec.toNat = 2 ^ k - 1) : nI n &&& m = nI (n % 2 ^ k) := by
  rw [pk_and _ k hm, pk_tn h]
theorem pk_shl (a s : Int32) (k : Nat) (hs : (s.toBitVec.smod 32).toNat = k) : (a <<< s).toBitVec.toNat = a.toBitVec.toNat * 2 ^ k % 2 ^ 32 := by
  show (a.toBitVec <<< (s.toBitVec.smod 32).toNat).toNat = _
  rw [hs, BitVec.toNat_shiftLeft, Nat.shiftLeft_eq]
theorem pk_shlN {n : Nat} (s : Int32) (k : Nat) (hs : (s.toBitVec.smod 32).toNat = k) (h : n * 2 ^ k < 2 ^ 32) : nI n <<< s = nI (n * 2 ^ k) := by
  apply Int32.toBitVec_inj.mp
  apply BitVec.eq_of_toNat_eq
  have hn : n < 2 ^ 32 := Nat.lt_of_le_of_lt (Nat.le_mul_of_pos_right n (Nat.two_pow_pos k)) h
  rw [pk_shl _ _ k hs, pk_tn hn, pk_tn h, Nat.mod_eq_of_lt h]
theorem pk_shr (a s : Int32) (k : Nat) (hs : (s.toBitVec.smod 32).toNat = k) : (a >>> s).toInt = a.toInt >>> k := by
  show (a.toBitVec.sshiftRight (s.toBitVec.smod 32).toNat).toInt = _
  rw [hs, BitVec.toInt_sshiftRight]
  rfl
theorem pk_shrN {n : Nat} (h : n < 2 ^ 31) (s : Int32) (k : Nat) (hs : (s.toBitVec.smod 32).toNat = k) : nI n >>> s = nI (n / 2 ^ k) := by
  apply Int32.toInt_inj.mp
  have h2 : n / 2 ^ k ≤ n := Nat.div_le_self _ _
  rw [pk_shr _ _ k hs, nI_toInt h, nI_toInt (by omega), Int.shiftRight_eq_div_pow]
  rfl
theorem s_l : ∀ n, n < 32 → ((nI n &&& 31).toBitVec.smod 32).toNat = n := by decide +kernel
end
section
/-! index equations, stores, reads, residues -/
theorem ix_4 (a q : Nat) : (4 : Int32) * nI a + nI q = nI (4 * a + q) := by
  show nI 4 * nI a + nI q = _
  rw [pk_mul, nI_add]
theorem ix_32 (a q : Nat) : (32 : Int32) * nI a + nI q = nI (32 * a + q) := by
  show nI 32 * nI a + nI q = _
  rw [pk_mul, nI_add]
theorem ix_15 (a q : Nat) : (15 : Int32) * nI a + nI q = nI (15 * a + q) := by
  show nI 15 * nI a + nI q = _
  rw [pk_mul, nI_add]
theorem ix_s (a c p q : Nat) : (32 : Int32) * nI a + 16 * nI c + 4 * nI p + nI q = nI (32 * a + 16 * c + 4 * p + q) := by
  show nI 32 * nI a + nI 16 * nI c + nI 4 * nI p + nI q = _
  rw [pk_mul, pk_mul, pk_mul, nI_add, nI_add, nI_add]
theorem ix_s0 (a p q : Nat) : (32 : Int32) * nI a + 4 * nI p + nI q = nI (32 * a + 4 * p + q) := by
  show nI 32 * nI a + nI 4 * nI p + nI q = _
  rw [pk_mul, pk_mul, nI_add, nI_add]
theorem ix_s1 (a p q : Nat) : (32 : Int32) * nI a + 16 + 4 * nI p + nI q = nI (32 * a + 16 + 4 * p + q) := by
  show nI 32 * nI a + nI 16 + nI 4 * nI p + nI q = _
  rw [pk_mul, pk_mul, nI_add, nI_add, nI_add]
/-- a store -/
theorem ww_put {e : Int32} {N : Nat} {A : Nat → Int32} {x : Int32} {P : (Nat → Int32) → Prop} (j : Nat) (he : e = nI j) (hj : j < N) (hN : N < 2 ^ 31) (h : P (upd A j x)) : vp_in e N ∧ ∀ y, y = upd A e.toNatClampNeg x → P y := by
  subst he
  refine ⟨vp_in_nI hj hN, ?_⟩
  intro y hy
  rw [nI_clamp (by omega)] at hy
  exact hy ▸ h
/-- a read whose value is used -/
theorem ww_get {e : Int32} {N : Nat} {A : Nat → Int32} {P : Int32 → Prop} (j : Nat) (he : e = nI j) (hj : j < N) (hN : N < 2 ^ 31) (v : Int32) (hv : A j = v) (h : P v) : vp_in e N ∧ P (A e.toNatClampNeg) := by
  subst he
  refine ⟨vp_in_nI hj hN, ?_⟩
  rw [nI_clamp (by omega), hv]
  exact h
theorem ww_rd {A : Nat → Int32} {e : Int32} (j : Nat) (he : e = nI j) (hj : j < 2 ^ 31) {v : Int32} (hv : A j = v) : A e.toNatClampNeg = v := by
  subst he
  rw [nI_clamp hj, hv]
theorem ww_a3 (a : Nat) (h : a < 3) : vp_in (nI a) 3 := vp_in_nI h (by decide)
/-- the residue of any int -/
def ww_md (x : Int32) : Nat := (x.toInt % 997).toNat
theorem ww_md_lt (x : Int32) : ww_md x < 997 := by
  unfold ww_md
  omega
theorem ww_md_nI (n : Nat) (h : n < 2 ^ 31) : ww_md (nI n) = n % 997 := by
  unfold ww_md
  rw [nI_toInt h]
  omega
theorem ww_997 : (997 : Int32).toInt = 997 := by decide
theorem ww_remI (x : Int32) : (x - x / 997 * 997).toInt = x.toInt.tmod 997 := by
  rw [irem_eq_mod, Int32.toInt_mod, ww_997]
theorem ww_tm (z : Int) : (0 ≤ z.tmod 997 → z.tmod 997 = z % 997) ∧ (z.tmod 997 < 0 → z.tmod 997 + 997 = z % 997) := by
  by_cases h : 0 ≤ z
  · rw [Int.tmod_eq_emod_of_nonneg h]
    omega
  · have e : z.tmod 997 = -((-z).tmod 997) := by rw [Int.neg_tmod, Int.neg_neg]
    rw [e, Int.tmod_eq_emod_of_nonneg (by omega)]
    omega
theorem ww_res0 (x : Int32) (h : 0 ≤ x - x / 997 * 997) : x - x / 997 * 997 = nI (ww_md x) := by
  apply Int32.toInt_inj.mp
  have e := ww_remI x
  have h0 := Int32.le_iff_toInt_le.mp h
  rw [e] at h0
  have t := (ww_tm x.toInt).1 h0
  have l := ww_md_lt x
  rw [e, nI_toInt (by omega)]
  unfold ww_md
  omega
theorem ww_res1 (x : Int32) (h : ¬ 0 ≤ x - x / 997 * 997) : x - x / 997 * 997 + 997 = nI (ww_md x) := by
  apply Int32.toInt_inj.mp
  have e := ww_remI x
  have h0 : ¬ (0 : Int) ≤ (x - x / 997 * 997).toInt := fun z => h (Int32.le_iff_toInt_le.mpr z)
  rw [e] at h0
  have t := (ww_tm x.toInt).2 (by omega)
  have l := ww_md_lt x
  rw [Int32.toInt_add, e, ww_997, t, nI_toInt (by omega)]
  unfold ww_md
  rw [Int.bmod_eq_of_le (by omega) (by omega)]
  omega
theorem ww_ne997 : ¬ (997 : Int32) = 0 := by decide
theorem xx_residue {post : Int32 → Prop} (x : Int32) (h : post (nI (ww_md x))) : wpX_residue post x := by
  refine ⟨ww_ne997, ?_⟩
  intro y ey
  subst ey
  exact br_c (fun z => by rw [ww_res0 x z]; exact h) (fun z => by rw [ww_res1 x z]; exact h)
theorem yy_reduced {post : Int32 → Prop} (v : SY) (x : Int32) (h : post (nI (ww_md x))) : wpY_reduced post v x := by
  refine ⟨ww_ne997, ?_⟩
  intro y ey
  subst ey
  exact br_c (fun z => by rw [ww_res0 x z]; exact h) (fun z => by rw [ww_res1 x z]; exact h)
theorem ww_rem (n : Nat) (h : n < 2 ^ 31) : nI n - nI n / 997 * 997 = nI (n % 997) := pk_rem (d := 997) h (by decide) (by decide)
theorem xx_resN {post : Int32 → Prop} (n : Nat) (hn : n < 2 ^ 31) (h : post (nI (n % 997))) : wpX_residue post (nI n) :=
  xx_residue _ (by rw [ww_md_nI n hn]; exact h)
/-- good automata -/
theorem xx_auB {post : Int32 → Prop} (x : Int32) (hx : x < 0 ∨ nI 3 ≤ x) (h : post 0) : wpX_isAutomaton post x :=
  br_c (fun _ => h) (fun z => br_c (fun _ => h) (fun z2 => (hx.elim (fun q => z q) (fun q => z2 q)).elim))
theorem xx_au {post : Int32 → Prop} (a : Nat) (ha : a < 3) (h : post 1) : wpX_isAutomaton post (nI a) :=
  br_f (nI_pos (by omega)) (br_f (nI_ge (b := 3) ha (by decide)) h)
theorem yy_bdB {post : Int32 → Prop} (v : SY) (x : Int32) (hx : x < 0 ∨ nI 3 ≤ x) (h : post 1) : wpY_bad post v x :=
  br_c (fun _ => h) (fun z => br_c (fun z2 => (hx.elim (fun q => z q) (fun q => by
    obtain ⟨j, hj, rfl⟩ := nI_of z
    rw [nI_leI (by decide) hj] at q
    have z3 : nI j ≤ nI 2 := z2
    rw [nI_leI hj (by decide)] at z3
    omega)).elim) (fun _ => h))
theorem yy_bd {post : Int32 → Prop} (v : SY) (a : Nat) (ha : a < 3) (h : post 0) : wpY_bad post v (nI a) :=
  br_f (nI_pos (by omega)) (br_t (nI_le (b := 2) (by omega) (by decide)) h)
theorem xx_sc {post : Int32 → Prop} (a q : Nat) (h : post (nI (4 * a + q))) : wpX_stateCell post (nI a) (nI q) := by
  show post _
  rw [ix_4]
  exact h
theorem xx_st {post : Int32 → Prop} (a c p q : Nat) (h : post (nI (32 * a + 16 * c + 4 * p + q))) : wpX_stepCell post (nI a) (nI c) (nI p) (nI q) := by
  show post _
  rw [ix_s]
  exact h
/-- what a row of writes leaves: G where D, the old array elsewhere -/
def ww_W (D : Nat → Prop) (G cur cur' : Nat → Int32) : Prop := ∀ j, (D j → cur' j = G j) ∧ (¬ D j → cur' j = cur j)
theorem ww_W0 {D : Nat → Prop} {G cur : Nat → Int32} (h : ∀ j, ¬ D j) : ww_W D G cur cur := fun j => ⟨fun z => (h j z).elim, fun _ => rfl⟩
theorem ww_W1 {D D' : Nat → Prop} {G st cur : Nat → Int32} {k : Nat} {x : Int32} (h : ww_W D G st cur) (hx : x = G k) (hD : ∀ j, D' j ↔ D j ∨ j = k) : ww_W D' G st (upd cur k x) := by
  intro j
  by_cases e : j = k
  · subst e
    exact ⟨fun _ => pk_us.trans hx, fun z => (z ((hD j).mpr (Or.inr rfl))).elim⟩
  · rw [pk_un e]
    refine ⟨fun z => (h j).1 ?_, fun z => (h j).2 ?_⟩
    · rcases (hD j).mp z with q | q
      · exact q
      · exact (e q).elim
    · exact fun q => z ((hD j).mpr (Or.inl q))
theorem ww_WW {D D1 D2 : Nat → Prop} {G st c1 c2 : Nat → Int32} (h1 : ww_W D1 G st c1) (h2 : ww_W D2 G c1 c2) (hD : ∀ j, D j ↔ D1 j ∨ D2 j) : ww_W D G st c2 := by
  intro j
  refine ⟨fun z => ?_, fun z => ?_⟩
  · by_cases q : D2 j
    · exact (h2 j).1 q
    · rw [(h2 j).2 q]
      rcases (hD j).mp z with w | w
      · exact (h1 j).1 w
      · exact (q w).elim
  · rw [(h2 j).2 (fun w => z ((hD j).mpr (Or.inr w))), (h1 j).2 (fun w => z ((hD j).mpr (Or.inl w)))]
theorem ww_Wi {D D' : Nat → Prop} {G st cur : Nat → Int32} (h : ww_W D G st cur) (hD : ∀ j, D' j ↔ D j) : ww_W D' G st cur :=
  fun j => ⟨fun z => (h j).1 ((hD j).mp z), fun z => (h j).2 (fun q => z ((hD j).mpr q))⟩
end
section
/-! the pictures of one automaton, and the relation -/
def ww_OK (n : Nat) (B E : Nat → Nat) (T : Nat → Nat → Nat → Nat) : Prop :=
  (1 ≤ n ∧ n ≤ 4) ∧ (∀ q, B q < 997) ∧ (∀ q, n ≤ q → B q = 0) ∧ (∀ q, E q < 997) ∧ (∀ q, n ≤ q → E q = 0) ∧ (∀ c p q, T c p q < 997) ∧ (∀ c p q, n ≤ p ∨ n ≤ q → T c p q = 0)
def ww_AX (a n : Nat) (B E : Nat → Nat) (T : Nat → Nat → Nat → Nat) (sz st en tr : Nat → Int32) : Prop :=
  sz a = nI n ∧ (∀ q, q < n → st (4 * a + q) = nI (B q)) ∧ (∀ q, q < n → en (4 * a + q) = nI (E q)) ∧ (∀ c p q, c < 2 → p < n → q < n → tr (32 * a + 16 * c + 4 * p + q) = nI (T c p q))
def ww_AY (a n : Nat) (B E : Nat → Nat) (T : Nat → Nat → Nat → Nat) (sz st en tr : Nat → Int32) : Prop :=
  sz a = nI n ∧ (∀ q, q < 4 → st (4 * a + q) = nI (B q)) ∧ (∀ q, q < 4 → en (4 * a + q) = nI (E q)) ∧ (∀ c p q, c < 2 → p < 4 → q < 4 → tr (32 * a + 16 * c + 4 * p + q) = nI (T c p q))
def ww_P (a : Nat) (xs xb xe xt ys yb ye yt : Nat → Int32) : Prop :=
  ∃ (n : Nat) (B E : Nat → Nat) (T : Nat → Nat → Nat → Nat), ww_OK n B E T ∧ ww_AX a n B E T xs xb xe xt ∧ ww_AY a n B E T ys yb ye yt
def ww_R (xs xb xe xt ys yb ye yt : Nat → Int32) : Prop := ∀ a, a < 3 → ww_P a xs xb xe xt ys yb ye yt
/-- the relation: each automaton of both sides has one picture; the reference holds 0 beyond the size -/
def i_Rel (_k : Nat) (u : SX) (v : SY) : Prop := ww_R u.1 u.2.1 u.2.2.1 u.2.2.2.1 v.1 v.2.1 v.2.2.1 v.2.2.2.1
theorem i_up {k : Nat} {u : SX} {v : SY} (h : i_Rel k u v) : i_Rel (k + 5) u v := h
/-- an automaton whose cells are as they were -/
theorem ww_fr {a n : Nat} {B E : Nat → Nat} {T : Nat → Nat → Nat → Nat} {sz st en tr sz' st' en' tr' : Nat → Int32} (h : ww_AX a n B E T sz st en tr) (hn : n ≤ 4) (h1 : sz' a = sz a) (h2 : ∀ j, j / 4 = a → st' j = st j) (h3 : ∀ j, j / 4 = a → en' j = en j) (h4 : ∀ j, j / 32 = a → tr' j = tr j) : ww_AX a n B E T sz' st' en' tr' := by
  obtain ⟨p1, p2, p3, p4⟩ := h
  refine ⟨h1.trans p1, fun q hq => ?_, fun q hq => ?_, fun c p q hc hp hq => ?_⟩
  · rw [h2 _ (by omega)]; exact p2 q hq
  · rw [h3 _ (by omega)]; exact p3 q hq
  · rw [h4 _ (by omega)]; exact p4 c p q hc hp hq
theorem ww_frY {a n : Nat} {B E : Nat → Nat} {T : Nat → Nat → Nat → Nat} {sz st en tr sz' st' en' tr' : Nat → Int32} (h : ww_AY a n B E T sz st en tr) (h1 : sz' a = sz a) (h2 : ∀ j, j / 4 = a → st' j = st j) (h3 : ∀ j, j / 4 = a → en' j = en j) (h4 : ∀ j, j / 32 = a → tr' j = tr j) : ww_AY a n B E T sz' st' en' tr' := by
  obtain ⟨p1, p2, p3, p4⟩ := h
  refine ⟨h1.trans p1, fun q hq => ?_, fun q hq => ?_, fun c p q hc hp hq => ?_⟩
  · rw [h2 _ (by omega)]; exact p2 q hq
  · rw [h3 _ (by omega)]; exact p3 q hq
  · rw [h4 _ (by omega)]; exact p4 c p q hc hp hq
theorem ww_Pf {a : Nat} {xs xb xe xt ys yb ye yt xs' xb' xe' xt' ys' yb' ye' yt' : Nat → Int32} (h : ww_P a xs xb xe xt ys yb ye yt)
    (h1 : xs' a = xs a) (h2 : ∀ j, j / 4 = a → xb' j = xb j) (h3 : ∀ j, j / 4 = a → xe' j = xe j) (h4 : ∀ j, j / 32 = a → xt' j = xt j)
    (k1 : ys' a = ys a) (k2 : ∀ j, j / 4 = a → yb' j = yb j) (k3 : ∀ j, j / 4 = a → ye' j = ye j) (k4 : ∀ j, j / 32 = a → yt' j = yt j) : ww_P a xs' xb' xe' xt' ys' yb' ye' yt' := by
  obtain ⟨n, B, E, T, ok, ax, ay⟩ := h
  exact ⟨n, B, E, T, ok, ww_fr ax ok.1.2 h1 h2 h3 h4, ww_frY ay k1 k2 k3 k4⟩
theorem i_vc0 : wpX_init (fun u => wpY_init (fun v => i_Rel 0 u v)) := by
  have i0 : vp_in (0 : Int32) 3 := vp_in_iff.mpr (by decide)
  have i1 : vp_in (0 + 1 : Int32) 3 := vp_in_iff.mpr (by decide)
  have i2 : vp_in (0 + 1 + 1 : Int32) 3 := vp_in_iff.mpr (by decide)
  refine ⟨4, br_f (by decide) ⟨i0, nm_e (nm_e (br_f (by decide) ⟨i1, nm_e (nm_e (br_f (by decide) ⟨i2, nm_e (nm_e (br_t (by decide) ?_))⟩))⟩))⟩⟩
  refine ⟨4, br_f (by decide) ⟨i0, nm_e (nm_e (br_f (by decide) ⟨i1, nm_e (nm_e (br_f (by decide) ⟨i2, nm_e (nm_e (br_t (by decide) ?_))⟩))⟩))⟩⟩
  intro a ha
  refine ⟨1, fun _ => 0, fun _ => 0, fun _ _ _ => 0, ⟨by decide, by simp, by simp, by simp, by simp, by simp, by simp⟩, ⟨?_, fun q _ => rfl, fun q _ => rfl, fun c p q _ _ _ => rfl⟩, ⟨?_, fun q _ => rfl, fun q _ => rfl, fun c p q _ _ _ => rfl⟩⟩
  · obtain rfl | rfl | rfl : a = 0 ∨ a = 1 ∨ a = 2 := by omega
    all_goals rfl
  · obtain rfl | rfl | rfl : a = 0 ∨ a = 1 ∨ a = 2 := by omega
    all_goals rfl
end
