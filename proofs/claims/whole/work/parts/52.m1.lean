/-! rounds of a permutation -/
def itr (σ : Nat → Nat) : Nat → Nat → Nat
  | 0, x => x
  | k + 1, x => σ (itr σ k x)
def bI (b : Bool) : Int32 := if b then 1 else 0
theorem bI_01 (b : Bool) : bI b = 0 ∨ bI b = 1 := by cases b <;> simp [bI]
theorem bI_eq0 {b : Bool} : bI b = 0 ↔ b = false := by cases b <;> simp [bI]
theorem bI_ne0 {b : Bool} : ¬ bI b = 0 ↔ b = true := by cases b <;> simp [bI]
section Cyc
variable {n : Nat} {σ : Nat → Nat}
theorem itr_add (σ : Nat → Nat) (a : Nat) : ∀ b x, itr σ (a + b) x = itr σ b (itr σ a x) := by
  intro b
  induction b with
  | zero => intro x; rfl
  | succ b ih => intro x; show σ (itr σ (a + b) x) = σ _; rw [ih]
theorem itr_succ' (σ : Nat → Nat) (k x : Nat) : itr σ (k + 1) x = itr σ k (σ x) := by
  rw [Nat.add_comm, itr_add]; rfl
theorem itr_lt (hs : In n σ) {x : Nat} (hx : x < n) : ∀ k, itr σ k x < n := by
  intro k
  induction k with
  | zero => exact hx
  | succ k ih => exact hs _ ih
theorem itr_inj (hs : Pm n σ) {x y : Nat} (hx : x < n) (hy : y < n) : ∀ k, itr σ k x = itr σ k y → x = y := by
  intro k
  induction k with
  | zero => exact fun h => h
  | succ k ih => exact fun h => ih (hs.2 _ _ (itr_lt hs.1 hx k) (itr_lt hs.1 hy k) h)
theorem per_ex (hs : Pm n σ) {x : Nat} (hx : x < n) : ∃ k, k < n ∧ itr σ (k + 1) x = x := by
  obtain ⟨i, j, h1, h2, h3⟩ := fb_twice (m := n) (n := n + 1) (f := fun k => itr σ k x) (fun i _ => itr_lt hs.1 hx i) (by omega)
  refine ⟨j - i - 1, by omega, ?_⟩
  have e : itr σ i (itr σ (j - i - 1 + 1) x) = itr σ i x := by
    rw [← itr_add, show j - i - 1 + 1 + i = j by omega]
    exact h3.symm
  exact itr_inj hs (itr_lt hs.1 hx _) hx i e
/-- how long the round of x is -/
def rl (σ : Nat → Nat) (n x : Nat) : Nat := fa_first (fun k => decide (itr σ (k + 1) x = x)) n + 1
theorem rl_spec (hs : Pm n σ) {x : Nat} (hx : x < n) : 1 ≤ rl σ n x ∧ rl σ n x ≤ n ∧ itr σ (rl σ n x) x = x ∧ ∀ j, 1 ≤ j → j < rl σ n x → itr σ j x ≠ x := by
  obtain ⟨k, hk, e⟩ := per_ex hs hx
  have hlt : fa_first (fun k => decide (itr σ (k + 1) x = x)) n < n := by
    rcases Nat.lt_or_ge k (fa_first (fun k => decide (itr σ (k + 1) x = x)) n) with h | h
    · have := fa_first_no (fun k => decide (itr σ (k + 1) x = x)) n k h
      simp [e] at this
    · omega
  have hy := fa_first_yes (fun k => decide (itr σ (k + 1) x = x)) n hlt
  refine ⟨by unfold rl; omega, by unfold rl; omega, ?_, fun j h1 h2 => ?_⟩
  · simpa [rl] using hy
  · have := fa_first_no (fun k => decide (itr σ (k + 1) x = x)) n (j - 1) (by unfold rl at h2; omega)
    rw [show j - 1 + 1 = j by omega] at this
    simpa using this
theorem itr_mul {p x : Nat} (h : itr σ p x = x) : ∀ q, itr σ (p * q) x = x := by
  intro q
  induction q with
  | zero => rfl
  | succ q ih => rw [Nat.mul_succ, Nat.add_comm, itr_add, h, ih]
theorem itr_mod {p x : Nat} (h : itr σ p x = x) (k : Nat) : itr σ k x = itr σ (k % p) x := by
  have e : k = p * (k / p) + k % p := (Nat.div_add_mod k p).symm
  conv => lhs; rw [e]
  rw [itr_add, itr_mul h]
/-- every x of the round of i has i in its own -/
theorem itr_back (hs : Pm n σ) {i : Nat} (hi : i < n) (k : Nat) : ∃ q, itr σ q (itr σ k i) = i := by
  obtain ⟨h1, -, h3, -⟩ := rl_spec hs hi
  refine ⟨rl σ n i * k - k, ?_⟩
  rw [← itr_add, show k + (rl σ n i * k - k) = rl σ n i * k by have := Nat.le_mul_of_pos_left k h1; omega]
  exact itr_mul h3 k
/-- all that p says of the things of i's round other than i, told along the round -/
def alo (p : Nat → Bool) (σ : Nat → Nat) (i : Nat) : Nat → Bool
  | 0 => true
  | t + 1 => alo p σ i t && p (itr σ (t + 1) i)
theorem alo_iff {p : Nat → Bool} {i : Nat} : ∀ t, alo p σ i t = true ↔ ∀ k, 1 ≤ k → k ≤ t → p (itr σ k i) = true := by
  intro t
  induction t with
  | zero => simp only [alo, true_iff]; intro k h1 h2; omega
  | succ t ih =>
    simp only [alo, Bool.and_eq_true, ih]
    constructor
    · rintro ⟨h1, h2⟩ k a b
      by_cases e : k = t + 1
      · subst e; exact h2
      · exact h1 k a (by omega)
    · exact fun h => ⟨fun k a b => h k a (by omega), h (t + 1) (by omega) (Nat.le_refl _)⟩
def mxB (σ : Nat → Nat) (n i : Nat) : Bool := alo (fun x => decide (x < i)) σ i (rl σ n i - 1)
def mnB (σ : Nat → Nat) (n i : Nat) : Bool := alo (fun x => decide (i < x)) σ i (rl σ n i - 1)
theorem mxB_iff (hs : Pm n σ) {i : Nat} (hi : i < n) : mxB σ n i = true ↔ ∀ k, itr σ k i ≤ i := by
  obtain ⟨h1, h2, h3, h4⟩ := rl_spec hs hi
  unfold mxB
  rw [alo_iff]
  constructor
  · intro h k
    rw [itr_mod h3 k]
    have hm : k % rl σ n i < rl σ n i := Nat.mod_lt _ (by omega)
    generalize k % rl σ n i = r at hm
    by_cases e : r = 0
    · subst e; exact Nat.le_refl _
    · have := h r (by omega) (by omega)
      simp at this; omega
  · intro h k a b
    have := h4 k a (by omega)
    have := h k
    simp; omega
theorem mnB_iff (hs : Pm n σ) {i : Nat} (hi : i < n) : mnB σ n i = true ↔ ∀ k, i ≤ itr σ k i := by
  obtain ⟨h1, h2, h3, h4⟩ := rl_spec hs hi
  unfold mnB
  rw [alo_iff]
  constructor
  · intro h k
    rw [itr_mod h3 k]
    have hm : k % rl σ n i < rl σ n i := Nat.mod_lt _ (by omega)
    generalize k % rl σ n i = r at hm
    by_cases e : r = 0
    · subst e; exact Nat.le_refl _
    · have := h r (by omega) (by omega)
      simp at this; omega
  · intro h k a b
    have := h4 k a (by omega)
    have := h k
    simp; omega
/-- an injection of one kind of numbers into another -/
theorem ct_inj {p q : Nat → Bool} {m : Nat} (f : Nat → Nat) (hf : ∀ i, i < n → p i = true → f i < m ∧ q (f i) = true) (hj : ∀ i j, i < n → j < n → p i = true → p j = true → f i = f j → i = j) : fb_ct p n ≤ fb_ct q m := by
  induction n generalizing q with
  | zero => exact Nat.zero_le _
  | succ n ih =>
    rw [fb_ct_succ]
    by_cases hp : p n = true
    · rw [if_pos hp]
      obtain ⟨h1, h2⟩ := hf n (by omega) hp
      have e := fb_ct_upd q false h1
      rw [if_pos h2, if_neg (by decide)] at e
      have := ih (q := fun k => if k = f n then false else q k) (fun i hi hpi => by
        obtain ⟨a, b⟩ := hf i (by omega) hpi
        refine ⟨a, ?_⟩
        by_cases e2 : f i = f n
        · have := hj i n (by omega) (by omega) hpi hp e2
          omega
        · simp only [if_neg e2]; exact b) (fun i j hi hj' => hj i j (by omega) (by omega))
      omega
    · rw [if_neg hp]
      exact ih (fun i hi => hf i (by omega)) (fun i j hi hj' => hj i j (by omega) (by omega))
/-- the greatest and the least of a round, both among its things -/
theorem mx_ex (hs : Pm n σ) {i : Nat} (hi : i < n) : ∃ k, mxB σ n (itr σ k i) = true := by
  obtain ⟨k, hk, hb, -⟩ := fb_best (fun k => (itr σ k i : Int)) (n := n) (by omega)
  obtain ⟨h1, h2, h3, h4⟩ := rl_spec hs hi
  refine ⟨k, (mxB_iff hs (itr_lt hs.1 hi k)).mpr (fun j => ?_)⟩
  rw [← itr_add, itr_mod h3 (k + j)]
  have := hb ((k + j) % rl σ n i) (Nat.lt_of_lt_of_le (Nat.mod_lt _ (by omega)) h2)
  omega
theorem mn_ex (hs : Pm n σ) {i : Nat} (hi : i < n) : ∃ k, mnB σ n (itr σ k i) = true := by
  obtain ⟨k, hk, hb, -⟩ := fb_low (fun k => (itr σ k i : Int)) (n := n) (by omega)
  obtain ⟨h1, h2, h3, h4⟩ := rl_spec hs hi
  refine ⟨k, (mnB_iff hs (itr_lt hs.1 hi k)).mpr (fun j => ?_)⟩
  rw [← itr_add, itr_mod h3 (k + j)]
  have := hb ((k + j) % rl σ n i) (Nat.lt_of_lt_of_le (Nat.mod_lt _ (by omega)) h2)
  omega
theorem mx_one (hs : Pm n σ) {i : Nat} (hi : i < n) {a b : Nat} (ha : mxB σ n (itr σ a i) = true) (hb : mxB σ n (itr σ b i) = true) : itr σ a i = itr σ b i := by
  have h1 := (mxB_iff hs (itr_lt hs.1 hi a)).mp ha
  have h2 := (mxB_iff hs (itr_lt hs.1 hi b)).mp hb
  obtain ⟨q, hq⟩ := itr_back hs hi a
  obtain ⟨r, hr⟩ := itr_back hs hi b
  have h3 := h1 (q + b)
  have h4 := h2 (r + a)
  rw [itr_add, hq] at h3
  rw [itr_add, hr] at h4
  omega
theorem mn_one (hs : Pm n σ) {i : Nat} (hi : i < n) {a b : Nat} (ha : mnB σ n (itr σ a i) = true) (hb : mnB σ n (itr σ b i) = true) : itr σ a i = itr σ b i := by
  have h1 := (mnB_iff hs (itr_lt hs.1 hi a)).mp ha
  have h2 := (mnB_iff hs (itr_lt hs.1 hi b)).mp hb
  obtain ⟨q, hq⟩ := itr_back hs hi a
  obtain ⟨r, hr⟩ := itr_back hs hi b
  have h3 := h1 (q + b)
  have h4 := h2 (r + a)
  rw [itr_add, hq] at h3
  rw [itr_add, hr] at h4
  omega
theorem rounds_same (hs : Pm n σ) : fb_ct (mxB σ n) n = fb_ct (mnB σ n) n := by
  have hmx : ∀ i, ∃ k, i < n → mxB σ n (itr σ k i) = true := fun i => by
    by_cases hi : i < n
    · obtain ⟨k, hk⟩ := mx_ex hs hi
      exact ⟨k, fun _ => hk⟩
    · exact ⟨0, fun h => absurd h hi⟩
  have hmn : ∀ i, ∃ k, i < n → mnB σ n (itr σ k i) = true := fun i => by
    by_cases hi : i < n
    · obtain ⟨k, hk⟩ := mn_ex hs hi
      exact ⟨k, fun _ => hk⟩
    · exact ⟨0, fun h => absurd h hi⟩
  apply Nat.le_antisymm
  · refine ct_inj (fun i => itr σ (Classical.choose (hmn i)) i) (fun i hi hp => ⟨itr_lt hs.1 hi _, Classical.choose_spec (hmn i) hi⟩) (fun i j hi hj hp hq e => ?_)
    obtain ⟨r, hr⟩ := itr_back hs hj (Classical.choose (hmn j))
    rw [← e] at hr
    have hp' : mxB σ n (itr σ 0 i) = true := hp
    have hq' : mxB σ n (itr σ (Classical.choose (hmn i) + r) i) = true := by rw [itr_add, hr]; exact hq
    have := mx_one hs hi hp' hq'
    rw [itr_add, hr] at this
    exact this
  · refine ct_inj (fun i => itr σ (Classical.choose (hmx i)) i) (fun i hi hp => ⟨itr_lt hs.1 hi _, Classical.choose_spec (hmx i) hi⟩) (fun i j hi hj hp hq e => ?_)
    obtain ⟨r, hr⟩ := itr_back hs hj (Classical.choose (hmx j))
    rw [← e] at hr
    have hp' : mnB σ n (itr σ 0 i) = true := hp
    have hq' : mnB σ n (itr σ (Classical.choose (hmx i) + r) i) = true := by rw [itr_add, hr]; exact hq
    have := mn_one hs hi hp' hq'
    rw [itr_add, hr] at this
    exact this
/-- all things of a round have rounds of one length -/
theorem rl_itr (hs : Pm n σ) {i : Nat} (hi : i < n) (k : Nat) : rl σ n (itr σ k i) = rl σ n i := by
  have hk := itr_lt hs.1 hi k
  obtain ⟨h1, h2, h3, h4⟩ := rl_spec hs hi
  obtain ⟨g1, g2, g3, g4⟩ := rl_spec hs hk
  have a : itr σ (rl σ n i) (itr σ k i) = itr σ k i := by rw [← itr_add, Nat.add_comm, itr_add, h3]
  have b : itr σ (rl σ n (itr σ k i)) i = i := by
    rw [← itr_add, Nat.add_comm, itr_add] at g3
    exact itr_inj hs (itr_lt hs.1 hi _) hi k g3
  rcases Nat.lt_trichotomy (rl σ n (itr σ k i)) (rl σ n i) with h | h | h
  · exact absurd b (h4 _ g1 h)
  · exact h
  · exact absurd a (g4 _ h1 h)
end Cyc
