/-! 997 is prime; five vectors of four numbers are dependent; a weight that is 0 on short words is 0 -/
def ww_inv (v : Nat) : Nat := v ^ 995 % 997
theorem ww_inv_tab : ∀ v, v < 997 → 1 ≤ v → v * ww_inv v % 997 = 1 := by decide +kernel
theorem ww_inv_lt (v : Nat) : ww_inv v < 997 := Nat.mod_lt _ (by decide)
theorem ww_euc {x y : Int} (h : (997 : Int) ∣ x * y) (hx : ¬ (997 : Int) ∣ x) : (997 : Int) ∣ y := by
  have h1 : 0 < x % 997 := by omega
  have h2 : x % 997 < 997 := by omega
  obtain ⟨r, hr⟩ : ∃ r : Nat, x % 997 = r := ⟨(x % 997).toNat, by omega⟩
  have h3 := ww_inv_tab r (by omega) (by omega)
  obtain ⟨w, hw⟩ := h
  have e1 : x = r + 997 * (x / 997) := by omega
  have e2 : (r * ww_inv r : Nat) = 1 + 997 * (r * ww_inv r / 997) := by omega
  have e3 : (r : Int) * (ww_inv r : Int) = 1 + 997 * ((r * ww_inv r / 997 : Nat) : Int) := by
    rw [← Int.natCast_mul, e2]
    simp
    omega
  generalize x / 997 = t at e1
  generalize ((r * ww_inv r / 997 : Nat) : Int) = m at e3
  generalize (ww_inv r : Int) = k at e3
  generalize (r : Int) = s at e1 e3
  refine ⟨k * w - t * k * y - m * y, ?_⟩
  subst e1
  grind
def ww_ls (l : List Nat) (f : Nat → Int) : Int := match l with
  | [] => 0
  | q :: l => f q + ww_ls l f
theorem ww_ls_lin (g h : Nat → Int) (x y : Int) : ∀ l, ww_ls l (fun q => g q * x - h q * y) = x * ww_ls l g - y * ww_ls l h
  | [] => by simp [ww_ls]
  | q :: l => by
    have := ww_ls_lin g h x y l
    simp only [ww_ls]
    rw [this]
    grind
theorem ww_ls_d {g : Nat → Int} : ∀ l : List Nat, (∀ q, q ∈ l → (997 : Int) ∣ g q) → (997 : Int) ∣ ww_ls l g
  | [], _ => ⟨0, rfl⟩
  | q :: l, h => by
    have h1 := ww_ls_d l (fun r hr => h r (List.mem_cons_of_mem _ hr))
    have h2 := h q (List.mem_cons_self ..)
    simp only [ww_ls]
    omega
theorem ww_ls_er {g : Nat → Int} {r : Nat} : ∀ l : List Nat, r ∈ l → ww_ls l g = g r + ww_ls (l.erase r) g
  | [], h => by simp at h
  | q :: l, h => by
    by_cases e : q = r
    · subst e
      simp [ww_ls]
    · have hm : r ∈ l := by
        rcases List.mem_cons.mp h with z | z
        · exact (e z.symm).elim
        · exact z
      have := ww_ls_er (g := g) l hm
      rw [List.erase_cons_tail (by simpa using e)]
      simp only [ww_ls]
      rw [this]
      omega
theorem ww_tri : ∀ (m : Nat) (l : List Nat), l.length = m → ∀ v f : Nat → Nat → Int, (∀ i j, i < j → j ≤ m → (997 : Int) ∣ ww_ls l (fun q => v i q * f j q)) → (∀ i, i ≤ m → ¬ (997 : Int) ∣ ww_ls l (fun q => v i q * f i q)) → False := by
  intro m
  induction m with
  | zero =>
    intro l hl v f _ hd
    have : l = [] := List.length_eq_zero_iff.mp hl
    subst this
    exact hd 0 (Nat.le_refl _) ⟨0, rfl⟩
  | succ m ih =>
    intro l hl v f hz hd
    have ex : ∃ r, r ∈ l ∧ ¬ (997 : Int) ∣ v 0 r := by
      apply Classical.byContradiction
      intro hn
      refine hd 0 (by omega) (ww_ls_d l (fun q hq => ?_))
      apply Classical.byContradiction
      intro h1
      exact hn ⟨q, hq, fun z => h1 (Int.dvd_mul_of_dvd_left z)⟩
    obtain ⟨r, hr, hv⟩ := ex
    have key : ∀ i j, ww_ls (l.erase r) (fun q => (v (i + 1) q * v 0 r - v 0 q * v (i + 1) r) * f (j + 1) q) = v 0 r * ww_ls l (fun q => v (i + 1) q * f (j + 1) q) - v (i + 1) r * ww_ls l (fun q => v 0 q * f (j + 1) q) := by
      intro i j
      have h1 := ww_ls_er (g := fun q => (v (i + 1) q * v 0 r - v 0 q * v (i + 1) r) * f (j + 1) q) l hr
      have h2 : (v (i + 1) r * v 0 r - v 0 r * v (i + 1) r) * f (j + 1) r = 0 := by grind
      have h3 : (fun q => (v (i + 1) q * v 0 r - v 0 q * v (i + 1) r) * f (j + 1) q) = (fun q => (v (i + 1) q * f (j + 1) q) * v 0 r - (v 0 q * f (j + 1) q) * v (i + 1) r) := by
        funext q
        grind
      have h4 := ww_ls_lin (fun q => v (i + 1) q * f (j + 1) q) (fun q => v 0 q * f (j + 1) q) (v 0 r) (v (i + 1) r) l
      rw [← h4, ← h3, h1]
      simp only [h2, Int.zero_add]
    refine ih (l.erase r) (by rw [List.length_erase_of_mem hr, hl]; rfl) (fun i q => v (i + 1) q * v 0 r - v 0 q * v (i + 1) r) (fun j q => f (j + 1) q) ?_ ?_
    · intro i j hij hj
      show (997 : Int) ∣ ww_ls (l.erase r) (fun q => (v (i + 1) q * v 0 r - v 0 q * v (i + 1) r) * f (j + 1) q)
      rw [key]
      exact Int.dvd_sub (Int.dvd_mul_of_dvd_right (hz (i + 1) (j + 1) (by omega) (by omega))) (Int.dvd_mul_of_dvd_right (hz 0 (j + 1) (by omega) (by omega)))
    · intro i hi
      show ¬ (997 : Int) ∣ ww_ls (l.erase r) (fun q => (v (i + 1) q * v 0 r - v 0 q * v (i + 1) r) * f (i + 1) q)
      rw [key]
      intro hc
      have h2 : (997 : Int) ∣ v (i + 1) r * ww_ls l (fun q => v 0 q * f (i + 1) q) := Int.dvd_mul_of_dvd_right (hz 0 (i + 1) (by omega) (by omega))
      have h3 : (997 : Int) ∣ v 0 r * ww_ls l (fun q => v (i + 1) q * f (i + 1) q) := by omega
      exact hd (i + 1) (by omega) (ww_euc h3 hv)
section
variable {n : Nat} {B E : Nat → Nat} {T : Nat → Nat → Nat → Nat}
def ww_F (E : Nat → Nat) (T : Nat → Nat → Nat → Nat) : List Nat → Nat → Int
  | [], q => E q
  | c :: w, q => ww_ls [0, 1, 2, 3] (fun r => (T c q r : Int) * ww_F E T w r)
theorem ww_cg (s : Nat) : ∃ t : Int, ((s % 997 : Nat) : Int) = (s : Int) - 997 * t := ⟨(s / 997 : Nat), by omega⟩
theorem ww_gc (M : Nat → Nat → Nat) (v : Nat → Nat) (q : Nat) : ∃ t : Int, ((ww_go M v q : Nat) : Int) = (v 0 : Int) * M 0 q + v 1 * M 1 q + v 2 * M 2 q + v 3 * M 3 q - 997 * t := by
  obtain ⟨t, ht⟩ := ww_cg (ww_sm (fun p => v p * M p q) 4)
  refine ⟨t, ht.trans ?_⟩
  simp [ww_sm]
theorem ww_bf : ∀ (w : List Nat) (v : Nat → Nat), (997 : Int) ∣ ((ww_fin E (ww_run T w v) : Nat) : Int) - ww_ls [0, 1, 2, 3] (fun q => (v q : Int) * ww_F E T w q)
  | [], v => by
    obtain ⟨t, ht⟩ := ww_cg (ww_sm (fun q => v q * E q) 4)
    refine ⟨-t, ?_⟩
    show ((ww_sm (fun q => v q * E q) 4 % 997 : Nat) : Int) - _ = _
    rw [ht]
    simp [ww_sm, ww_ls, ww_F]
    omega
  | c :: w, v => by
    obtain ⟨k, hk⟩ := ww_bf w (ww_go (T c) v)
    obtain ⟨t0, h0⟩ := ww_gc (T c) v 0
    obtain ⟨t1, h1⟩ := ww_gc (T c) v 1
    obtain ⟨t2, h2⟩ := ww_gc (T c) v 2
    obtain ⟨t3, h3⟩ := ww_gc (T c) v 3
    show (997 : Int) ∣ ((ww_fin E (ww_run T w (ww_go (T c) v)) : Nat) : Int) - _
    generalize ((ww_fin E (ww_run T w (ww_go (T c) v)) : Nat) : Int) = z at hk
    simp only [ww_ls, ww_F] at hk ⊢
    rw [h0, h1, h2, h3] at hk
    generalize ww_F E T w 0 = f0 at hk ⊢
    generalize ww_F E T w 1 = f1 at hk ⊢
    generalize ww_F E T w 2 = f2 at hk ⊢
    generalize ww_F E T w 3 = f3 at hk ⊢
    refine ⟨k - (t0 * f0 + t1 * f1 + t2 * f2 + t3 * f3), ?_⟩
    grind
theorem ww_run_app (u w : List Nat) (v : Nat → Nat) : ww_run T (u ++ w) v = ww_run T w (ww_run T u v) := by
  induction u generalizing v with
  | nil => rfl
  | cons c u ih => exact ih _
theorem ww_word (h : ∀ w : List Nat, w.length ≤ 3 → (∀ c, c ∈ w → c < 2) → ww_fin E (ww_run T w B) = 0) : ∀ (L : Nat) (w : List Nat), w.length = L → (∀ c, c ∈ w → c < 2) → ww_fin E (ww_run T w B) = 0 := by
  intro L
  induction L using Nat.strongRecOn with
  | ind L ih =>
    intro w hw hl
    by_cases h3 : L ≤ 3
    · exact h w (by omega) hl
    · apply Classical.byContradiction
      intro hne
      refine ww_tri 4 [0, 1, 2, 3] rfl (fun i q => (ww_run T (w.take i) B q : Int)) (fun j q => ww_F E T (w.drop j) q) ?_ ?_
      · intro i j hij hj
        have h1 := ww_bf (E := E) (T := T) (w.drop j) (ww_run T (w.take i) B)
        rw [← ww_run_app] at h1
        have h2 := ih (w.take i ++ w.drop j).length (by rw [List.length_append, List.length_take, List.length_drop]; omega) (w.take i ++ w.drop j) rfl (fun c hc => by
          rcases List.mem_append.mp hc with z | z
          · exact hl c (List.mem_of_mem_take z)
          · exact hl c (List.mem_of_mem_drop z))
        rw [h2] at h1
        omega
      · intro i hi
        have h1 := ww_bf (E := E) (T := T) (w.drop i) (ww_run T (w.take i) B)
        rw [← ww_run_app, List.take_append_drop] at h1
        have h2 := ww_fin_lt E (ww_run T w B)
        omega
theorem ww_words : ∀ w : List Nat, w.length ≤ 3 → (∀ c, c ∈ w → c < 2) → ∃ c, 1 ≤ c ∧ c < 16 ∧ ww_bits c c.log2 = w
  | [], _, _ => ⟨1, by decide, by decide, by decide +kernel⟩
  | [x], _, h => by
    have hx : x = 0 ∨ x = 1 := by have := h x (by simp); omega
    rcases hx with rfl | rfl
    · exact ⟨2, by decide, by decide, by decide +kernel⟩
    · exact ⟨3, by decide, by decide, by decide +kernel⟩
  | [x, y], _, h => by
    have hx : x = 0 ∨ x = 1 := by have := h x (by simp); omega
    have hy : y = 0 ∨ y = 1 := by have := h y (by simp); omega
    rcases hx with rfl | rfl <;> rcases hy with rfl | rfl
    · exact ⟨4, by decide, by decide, by decide +kernel⟩
    · exact ⟨5, by decide, by decide, by decide +kernel⟩
    · exact ⟨6, by decide, by decide, by decide +kernel⟩
    · exact ⟨7, by decide, by decide, by decide +kernel⟩
  | [x, y, z], _, h => by
    have hx : x = 0 ∨ x = 1 := by have := h x (by simp); omega
    have hy : y = 0 ∨ y = 1 := by have := h y (by simp); omega
    have hz : z = 0 ∨ z = 1 := by have := h z (by simp); omega
    rcases hx with rfl | rfl <;> rcases hy with rfl | rfl <;> rcases hz with rfl | rfl
    · exact ⟨8, by decide, by decide, by decide +kernel⟩
    · exact ⟨9, by decide, by decide, by decide +kernel⟩
    · exact ⟨10, by decide, by decide, by decide +kernel⟩
    · exact ⟨11, by decide, by decide, by decide +kernel⟩
    · exact ⟨12, by decide, by decide, by decide +kernel⟩
    · exact ⟨13, by decide, by decide, by decide +kernel⟩
    · exact ⟨14, by decide, by decide, by decide +kernel⟩
    · exact ⟨15, by decide, by decide, by decide +kernel⟩
  | _ :: _ :: _ :: _ :: _, h, _ => by simp at h
theorem ww_bits_lt (c : Nat) : ∀ (k x : Nat), x ∈ ww_bits c k → x < 2
  | 0, x, h => by simp [ww_bits] at h
  | k + 1, x, h => by
    rcases List.mem_cons.mp h with z | z
    · omega
    · exact ww_bits_lt c k x z
/-- a weight that is 0 on the words of at most three letters is 0 on every word -/
theorem ww_van (h : ∀ c, 1 ≤ c → c < 16 → ww_wt B E T c = 0) (c : Nat) : ww_wt B E T c = 0 := by
  refine ww_word (fun w hw hl => ?_) _ (ww_bits c c.log2) rfl (ww_bits_lt c _)
  obtain ⟨c', h1, h2, h3⟩ := ww_words w hw hl
  have := h c' h1 h2
  unfold ww_wt at this
  rw [h3] at this
  exact this
end
