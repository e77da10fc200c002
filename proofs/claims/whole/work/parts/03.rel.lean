/-! the pictures of one automaton, and the relation -/
def ww_OK (n : Nat) (B E : Nat → Nat) (T : Nat → Nat → Nat → Nat) : Prop :=
  (1 ≤ n ∧ n ≤ 4) ∧ (∀ q, B q < 997) ∧ (∀ q, n ≤ q → B q = 0) ∧ (∀ q, E q < 997) ∧ (∀ q, n ≤ q → E q = 0) ∧ (∀ c p q, T c p q < 997) ∧ (∀ c p q, n ≤ p ∨ n ≤ q → T c p q = 0)
def ww_AX (a n : Nat) (B E : Nat → Nat) (T : Nat → Nat → Nat → Nat) (sz st en tr : Nat → Int32) : Prop :=
  sz a = nI n ∧ (∀ q, q < n → st (4 * a + q) = nI (B q)) ∧ (∀ q, q < n → en (4 * a + q) = nI (E q)) ∧ (∀ c p q, c < 2 → p < n → q < n → tr (32 * a + 16 * c + 4 * p + q) = nI (T c p q))
def ww_AY (a n : Nat) (B E : Nat → Nat) (T : Nat → Nat → Nat → Nat) (sz st en tr : Nat → Int32) : Prop :=
  sz a = nI n ∧ (∀ q, q < 4 → st (4 * a + q) = nI (B q)) ∧ (∀ q, q < 4 → en (4 * a + q) = nI (E q)) ∧ (∀ c p q, c < 2 → p < 4 → q < 4 → tr (32 * a + 16 * c + 4 * p + q) = nI (T c p q))
def ww_P (a : Nat) (xs xb xe xt ys yb ye yt : Nat → Int32) : Prop :=
  ∃ (n : Nat) (B E : Nat → Nat) (T : Nat → Nat → Nat → Nat), ww_OK n B E T ∧ ww_AX a n B E T xs xb xe xt ∧ ww_AY a n B E T ys yb ye yt
def ww_R (xs xb xe xt ys yb ye yt : Nat → Int32) : Prop := ∀ a, a < 3 → ww_P a xs xb xe xt ys yb ye yt
/-- the relation: each automaton of both sides has one picture; the reference holds 0 beyond the size -/
def i_Rel (_k : Nat) (u : SX) (v : SY) : Prop := ww_R u.1 u.2.1 u.2.2.1 u.2.2.2.1 v.1 v.2.1 v.2.2.1 v.2.2.2.1
theorem i_up {k : Nat} {u : SX} {v : SY} (h : i_Rel k u v) : i_Rel (k + 5) u v := h
/-- an automaton whose cells are as they were -/
theorem ww_fr {a n : Nat} {B E : Nat → Nat} {T : Nat → Nat → Nat → Nat} {sz st en tr sz' st' en' tr' : Nat → Int32} (h : ww_AX a n B E T sz st en tr) (hn : n ≤ 4) (h1 : sz' a = sz a) (h2 : ∀ j, j / 4 = a → st' j = st j) (h3 : ∀ j, j / 4 = a → en' j = en j) (h4 : ∀ j, j / 32 = a → tr' j = tr j) : ww_AX a n B E T sz' st' en' tr' := by
  obtain ⟨p1, p2, p3, p4⟩ := h
  refine ⟨h1.trans p1, fun q hq => ?_, fun q hq => ?_, fun c p q hc hp hq => ?_⟩
  · rw [h2 _ (by omega)]; exact p2 q hq
  · rw [h3 _ (by omega)]; exact p3 q hq
  · rw [h4 _ (by omega)]; exact p4 c p q hc hp hq
theorem ww_frY {a n : Nat} {B E : Nat → Nat} {T : Nat → Nat → Nat → Nat} {sz st en tr sz' st' en' tr' : Nat → Int32} (h : ww_AY a n B E T sz st en tr) (h1 : sz' a = sz a) (h2 : ∀ j, j / 4 = a → st' j = st j) (h3 : ∀ j, j / 4 = a → en' j = en j) (h4 : ∀ j, j / 32 = a → tr' j = tr j) : ww_AY a n B E T sz' st' en' tr' := by
  obtain ⟨p1, p2, p3, p4⟩ := h
  refine ⟨h1.trans p1, fun q hq => ?_, fun q hq => ?_, fun c p q hc hp hq => ?_⟩
  · rw [h2 _ (by omega)]; exact p2 q hq
  · rw [h3 _ (by omega)]; exact p3 q hq
  · rw [h4 _ (by omega)]; exact p4 c p q hc hp hq
theorem ww_Pf {a : Nat} {xs xb xe xt ys yb ye yt xs' xb' xe' xt' ys' yb' ye' yt' : Nat → Int32} (h : ww_P a xs xb xe xt ys yb ye yt)
    (h1 : xs' a = xs a) (h2 : ∀ j, j / 4 = a → xb' j = xb j) (h3 : ∀ j, j / 4 = a → xe' j = xe j) (h4 : ∀ j, j / 32 = a → xt' j = xt j)
    (k1 : ys' a = ys a) (k2 : ∀ j, j / 4 = a → yb' j = yb j) (k3 : ∀ j, j / 4 = a → ye' j = ye j) (k4 : ∀ j, j / 32 = a → yt' j = yt j) : ww_P a xs' xb' xe' xt' ys' yb' ye' yt' := by
  obtain ⟨n, B, E, T, ok, ax, ay⟩ := h
  exact ⟨n, B, E, T, ok, ww_fr ax ok.1.2 h1 h2 h3 h4, ww_frY ay k1 k2 k3 k4⟩
theorem i_vc0 : wpX_init (fun u => wpY_init (fun v => i_Rel 0 u v)) := by
  have i0 : vp_in (0 : Int32) 3 := vp_in_iff.mpr (by decide)
  have i1 : vp_in (0 + 1 : Int32) 3 := vp_in_iff.mpr (by decide)
  have i2 : vp_in (0 + 1 + 1 : Int32) 3 := vp_in_iff.mpr (by decide)
  refine ⟨4, br_f (by decide) ⟨i0, nm_e (nm_e (br_f (by decide) ⟨i1, nm_e (nm_e (br_f (by decide) ⟨i2, nm_e (nm_e (br_t (by decide) ?_))⟩))⟩))⟩⟩
  refine ⟨4, br_f (by decide) ⟨i0, nm_e (nm_e (br_f (by decide) ⟨i1, nm_e (nm_e (br_f (by decide) ⟨i2, nm_e (nm_e (br_t (by decide) ?_))⟩))⟩))⟩⟩
  intro a ha
  refine ⟨1, fun _ => 0, fun _ => 0, fun _ _ _ => 0, ⟨by decide, by simp, by simp, by simp, by simp, by simp, by simp⟩, ⟨?_, fun q _ => rfl, fun q _ => rfl, fun c p q _ _ _ => rfl⟩, ⟨?_, fun q _ => rfl, fun q _ => rfl, fun c p q _ _ _ => rfl⟩⟩
  · obtain rfl | rfl | rfl : a = 0 ∨ a = 1 ∨ a = 2 := by omega
    all_goals rfl
  · obtain rfl | rfl | rfl : a = 0 ∨ a = 1 ∨ a = 2 := by omega
    all_goals rfl
