/-! what is counted of a row -/
def pmx (σ : Nat → Nat) : Nat → Nat
  | 0 => 0
  | j + 1 => max (pmx σ j) (σ j)
def gmx (f : Nat → Nat) : Nat → Nat
  | 0 => 0
  | j + 1 => max (gmx f j) (f j)
def recB (σ : Nat → Nat) (i : Nat) : Bool := decide (i = 0 ∨ pmx σ i < σ i)
theorem pmx_lt {σ : Nat → Nat} {v : Nat} : ∀ i, 0 < i → (pmx σ i < v ↔ ∀ j, j < i → σ j < v) := by
  intro i
  induction i with
  | zero => intro h; omega
  | succ i ih =>
    intro _
    show max (pmx σ i) (σ i) < v ↔ _
    rw [Nat.max_lt]
    by_cases h : 0 < i
    · rw [ih h]
      constructor
      · rintro ⟨a, b⟩ j hj
        by_cases e : j = i
        · subst e; exact b
        · exact a j (by omega)
      · exact fun a => ⟨fun j hj => a j (by omega), a i (by omega)⟩
    · have : i = 0 := by omega
      subst this
      constructor
      · rintro ⟨a, b⟩ j hj
        have : j = 0 := by omega
        subst this; exact b
      · exact fun a => ⟨by have := a 0 (by omega); show 0 < v; omega, a 0 (by omega)⟩
theorem pmx_lim {σ : Nat → Nat} {n : Nat} (hs : In n σ) : ∀ j, j ≤ n → 0 < n → pmx σ j < n := by
  intro j
  induction j with
  | zero => intro _ h; exact h
  | succ j ih => intro h h0; exact Nat.max_lt.mpr ⟨ih (by omega) h0, hs j (by omega)⟩
theorem gmx_le {f : Nat → Nat} {c : Nat} : ∀ j, (∀ i, i < j → f i ≤ c) → gmx f j ≤ c := by
  intro j
  induction j with
  | zero => intro _; exact Nat.zero_le _
  | succ j ih => intro h; exact Nat.max_le.mpr ⟨ih (fun i hi => h i (by omega)), h j (by omega)⟩
/-- the longest rise that ends at each place -/
def inn (σ f : Nat → Nat) (j : Nat) : Nat → Nat
  | 0 => 0
  | i + 1 => if σ i < σ j then max (inn σ f j i) (f i) else inn σ f j i
def lrA (σ : Nat → Nat) : Nat → Nat → Nat
  | 0 => fun _ => 0
  | j + 1 => fun k => if k = j then inn σ (lrA σ j) j j + 1 else lrA σ j k
def lv (σ : Nat → Nat) (j : Nat) : Nat := lrA σ (j + 1) j
theorem inn_cong {σ f g : Nat → Nat} {j : Nat} : ∀ i, (∀ k, k < i → f k = g k) → inn σ f j i = inn σ g j i := by
  intro i
  induction i with
  | zero => intro _; rfl
  | succ i ih => intro h; simp only [inn, ih (fun k hk => h k (by omega)), h i (by omega)]
theorem lrA_old {σ : Nat → Nat} : ∀ j k, k < j → lrA σ j k = lv σ k := by
  intro j
  induction j with
  | zero => intro k h; omega
  | succ j ih =>
    intro k h
    by_cases e : k = j
    · subst e; rfl
    · show (if k = j then _ else lrA σ j k) = _
      rw [if_neg e]
      exact ih k (by omega)
theorem lv_eq (σ : Nat → Nat) (j : Nat) : lv σ j = inn σ (lv σ) j j + 1 := by
  show (if j = j then inn σ (lrA σ j) j j + 1 else _) = _
  rw [if_pos rfl, inn_cong j (fun k hk => lrA_old j k hk)]
theorem inn_le {σ f : Nat → Nat} {j c : Nat} : ∀ i, (∀ k, k < i → f k ≤ c) → inn σ f j i ≤ c := by
  intro i
  induction i with
  | zero => intro _; exact Nat.zero_le _
  | succ i ih =>
    intro h
    have h1 := ih (fun k hk => h k (by omega))
    have h2 := h i (by omega)
    simp only [inn]
    split
    · exact Nat.max_le.mpr ⟨h1, h2⟩
    · exact h1
theorem lv_le (σ : Nat → Nat) : ∀ m j, j < m → lv σ j ≤ m := by
  intro m
  induction m with
  | zero => intro j h; omega
  | succ m ih =>
    intro j h
    rw [lv_eq]
    have := inn_le (σ := σ) (f := lv σ) (j := j) (c := m) j (fun k hk => ih k (by omega))
    omega
/-- turns: by the leaders of the rounds, and by all things -/
def tuL (σ : Nat → Nat) (n : Nat) : Nat → Nat
  | 0 => 1
  | j + 1 => if mxB σ n j then Nat.lcm (tuL σ n j) (rl σ n j) else tuL σ n j
def tuA (σ : Nat → Nat) (n : Nat) : Nat → Nat
  | 0 => 1
  | j + 1 => Nat.lcm (tuA σ n j) (rl σ n j)
theorem lcm18 : ∀ k, 1 ≤ k → k ≤ 18 → k ∣ 12252240 := by
  have h : ∀ k, k < 19 → k = 0 ∨ k ∣ 12252240 := by decide +kernel
  intro k h1 h2
  rcases h k (by omega) with h3 | h3
  · omega
  · exact h3
theorem tuL_dvd {σ : Nat → Nat} {n m : Nat} : ∀ j, (∀ i, i < j → mxB σ n i = true → rl σ n i ∣ m) → tuL σ n j ∣ m := by
  intro j
  induction j with
  | zero => intro _; exact Nat.one_dvd _
  | succ j ih =>
    intro h
    have h1 := ih (fun i hi => h i (by omega))
    simp only [tuL]
    split
    · rename_i hm
      exact Nat.lcm_dvd h1 (h j (by omega) hm)
    · exact h1
theorem tuA_dvd {σ : Nat → Nat} {n m : Nat} : ∀ j, (∀ i, i < j → rl σ n i ∣ m) → tuA σ n j ∣ m := by
  intro j
  induction j with
  | zero => intro _; exact Nat.one_dvd _
  | succ j ih => intro h; exact Nat.lcm_dvd (ih (fun i hi => h i (by omega))) (h j (by omega))
theorem rl_tuL {σ : Nat → Nat} {n : Nat} : ∀ j i, i < j → mxB σ n i = true → rl σ n i ∣ tuL σ n j := by
  intro j
  induction j with
  | zero => intro i h; omega
  | succ j ih =>
    intro i h hm
    simp only [tuL]
    by_cases e : i = j
    · subst e; rw [if_pos hm]; exact Nat.dvd_lcm_right _ _
    · have := ih i (by omega) hm
      split
      · exact Nat.dvd_trans this (Nat.dvd_lcm_left _ _)
      · exact this
theorem rl_tuA {σ : Nat → Nat} {n : Nat} : ∀ j i, i < j → rl σ n i ∣ tuA σ n j := by
  intro j
  induction j with
  | zero => intro i h; omega
  | succ j ih =>
    intro i h
    simp only [tuA]
    by_cases e : i = j
    · subst e; exact Nat.dvd_lcm_right _ _
    · exact Nat.dvd_trans (ih i (by omega)) (Nat.dvd_lcm_left _ _)
theorem tu_same {σ : Nat → Nat} {n : Nat} (hs : Pm n σ) : tuL σ n n = tuA σ n n := by
  apply Nat.dvd_antisymm
  · exact tuL_dvd n (fun i hi _ => rl_tuA n i hi)
  · refine tuA_dvd n (fun i hi => ?_)
    obtain ⟨k, hk⟩ := mx_ex hs hi
    rw [← rl_itr hs hi k]
    exact rl_tuL n _ (itr_lt hs.1 hi k) hk
theorem tuL_lim {σ : Nat → Nat} {n : Nat} (hn : n ≤ 18) (hs : Pm n σ) : ∀ j, j ≤ n → tuL σ n j ∣ 12252240 ∧ 0 < tuL σ n j ∧ tuL σ n j ≤ 12252240 := by
  intro j hj
  have h : tuL σ n j ∣ 12252240 := tuL_dvd j (fun i hi _ => by
    obtain ⟨a, b, -, -⟩ := rl_spec hs (show i < n by omega)
    exact lcm18 _ a (by omega))
  exact ⟨h, Nat.pos_of_dvd_of_pos h (by decide), Nat.le_of_dvd (by decide) h⟩
theorem tuA_lim {σ : Nat → Nat} {n : Nat} (hn : n ≤ 18) (hs : Pm n σ) : ∀ j, j ≤ n → tuA σ n j ∣ 12252240 ∧ 0 < tuA σ n j ∧ tuA σ n j ≤ 12252240 := by
  intro j hj
  have h : tuA σ n j ∣ 12252240 := tuA_dvd j (fun i hi => by
    obtain ⟨a, b, -, -⟩ := rl_spec hs (show i < n by omega)
    exact lcm18 _ a (by omega))
  exact ⟨h, Nat.pos_of_dvd_of_pos h (by decide), Nat.le_of_dvd (by decide) h⟩
/-- pairs out of order: by the second, and by the first -/
def poC (σ : Nat → Nat) (n : Nat) : Nat := fb_sm (fun j => fb_ct (fun i => decide (σ j < σ i)) j) n
def poM (σ : Nat → Nat) (n : Nat) : Nat := fb_sm (fun i => fb_ct (fun j => decide (i < j) && decide (σ j < σ i)) n) n
theorem po_same (σ : Nat → Nat) : ∀ n, poC σ n = poM σ n := by
  have key : ∀ m n, m ≤ n → fb_sm (fun i => fb_ct (fun j => decide (i < j) && decide (σ j < σ i)) (n + 1)) m = fb_sm (fun i => fb_ct (fun j => decide (i < j) && decide (σ j < σ i)) n) m + fb_ct (fun i => decide (σ n < σ i)) m := by
    intro m
    induction m with
    | zero => intro n _; rfl
    | succ m ih =>
      intro n h
      rw [fb_sm_succ, fb_sm_succ, ih n (by omega), fb_ct_succ, fb_ct_succ]
      have : (decide (m < n) && decide (σ n < σ m)) = decide (σ n < σ m) := by
        rw [show decide (m < n) = true from decide_eq_true (by omega), Bool.true_and]
      rw [this]
      omega
  intro n
  induction n with
  | zero => rfl
  | succ n ih =>
    unfold poC poM at *
    rw [fb_sm_succ, fb_sm_succ, key n n (Nat.le_refl _), ih]
    have h0 : fb_ct (fun j => decide (n < j) && decide (σ j < σ n)) (n + 1) = 0 := fb_ct_zero.mpr (fun k hk => by
      rw [show decide (n < k) = false from decide_eq_false (by omega), Bool.false_and])
    rw [h0]
    omega
