/-! Euclid's way: how many steps it takes -/
def fbp : Nat → Nat × Nat
  | 0 => (0, 1)
  | k + 1 => ((fbp k).2, (fbp k).1 + (fbp k).2)
def fbn (k : Nat) : Nat := (fbp k).1
theorem fbn_s (k : Nat) : fbn (k + 2) = fbn k + fbn (k + 1) := rfl
theorem fbn_93 : 2 ^ 63 < fbn 93 := by decide +kernel
theorem mod_add_le {a b : Nat} (hb : 0 < b) (h : b ≤ a) : b + a % b ≤ a := by
  have h1 := Nat.div_add_mod a b
  have h2 : 1 ≤ a / b := (Nat.one_le_div_iff hb).mpr h
  have h3 : b * 1 ≤ b * (a / b) := Nat.mul_le_mul_left b h2
  omega
theorem e_cd9 {Q : Int64 → Prop} : ∀ (s a b t : Nat), b < a → a < 2 ^ 63 → ¬ (fbn (s + 1) ≤ b ∧ fbn (s + 2) ≤ a) → t + s ≤ 99 → Q (lN (Nat.gcd a b)) → ∃ k, q6_commonDivisor_9 Q k (lN a) (lN b) (nI t) := by
  intro s
  induction s with
  | zero =>
    intro a b t h1 h2 h3 h4 h5
    have hb : b = 0 := by
      rcases Nat.eq_zero_or_pos b with h | h
      · exact h
      · exact absurd ⟨h, by show 1 ≤ a; omega⟩ h3
    subst hb
    rw [Nat.gcd_zero_right] at h5
    refine ⟨1, ?_⟩
    unfold q6_commonDivisor_9
    exact pk_le 100 t (fun _ => h5) (fun _ => ⟨fun _ => h5, fun h => absurd rfl h⟩)
  | succ s ih =>
    intro a b t h1 h2 h3 h4 h5
    by_cases hb : b = 0
    · subst hb
      rw [Nat.gcd_zero_right] at h5
      refine ⟨1, ?_⟩
      unfold q6_commonDivisor_9
      exact pk_le 100 t (fun _ => h5) (fun _ => ⟨fun _ => h5, fun h => absurd rfl h⟩)
    · have hlt := Nat.mod_lt a (Nat.pos_of_ne_zero hb)
      have hle := mod_add_le (Nat.pos_of_ne_zero hb) (Nat.le_of_lt h1)
      obtain ⟨k, hk⟩ := ih b (a % b) (t + 1) hlt (by omega) (fun h => h3 ⟨h.2, by
        have := fbn_s (s + 1)
        have h7 : fbn (s + 1 + 1) ≤ b := h.2
        have h8 : fbn (s + 1 + 2) = fbn (s + 1) + fbn (s + 1 + 1) := this
        rw [h8]
        have := h.1
        omega⟩) (by omega) (by rw [Nat.gcd_comm, ← Nat.gcd_rec, Nat.gcd_comm]; exact h5)
      refine ⟨k + 1, ?_⟩
      unfold q6_commonDivisor_9
      have h0 : ¬ lN b = 0 := fun h => hb ((pk_lEQ (b := 0) (by omega) (by decide)).mp h)
      refine pk_le 100 t (fun _ => by omega) (fun _ => ⟨fun h => absurd h h0, fun _ => ⟨h0, ?_⟩⟩)
      rw [pk_lRem (by omega) (by omega) (by omega), nI_1]
      exact hk
theorem e_commonDivisor {Q : Int64 → Prop} {a b : Nat} (ha : a < 2 ^ 63) (hb : b < 2 ^ 63) (h : Q (lN (Nat.gcd a b))) : q6_commonDivisor (lN a) (lN b) Q := by
  unfold q6_commonDivisor
  by_cases h0 : b = 0
  · subst h0
    rw [Nat.gcd_zero_right] at h
    refine ⟨1, ?_⟩
    unfold q6_commonDivisor_9
    exact pk_le 100 0 (fun _ => h) (fun _ => ⟨fun _ => h, fun h => absurd rfl h⟩)
  · obtain ⟨k, hk⟩ := e_cd9 (Q := Q) 91 b (a % b) 1 (Nat.mod_lt a (by omega)) hb (fun h => by have := fbn_93; have h2 : fbn 93 ≤ b := h.2; omega) (by omega) (by rw [Nat.gcd_comm, ← Nat.gcd_rec, Nat.gcd_comm]; exact h)
    refine ⟨k + 1, ?_⟩
    unfold q6_commonDivisor_9
    have h1 : ¬ lN b = 0 := fun h => h0 ((pk_lEQ (b := 0) hb (by decide)).mp h)
    refine pk_le 100 0 (fun h => by omega) (fun _ => ⟨fun h => absurd h h1, fun _ => ⟨h1, ?_⟩⟩)
    rw [pk_lRem ha (by omega) hb]
    exact hk
theorem e_quotient {Q : Int64 → Prop} {a b : Nat} (ha : a < 2 ^ 63) (hb : b < 2 ^ 63) (h0 : 0 < b) (h : Q (lN (a / b))) : q6_quotient (lN a) (lN b) Q := by
  unfold q6_quotient
  have h1 : ¬ lN b = 0 := fun h => by have := (pk_lEQ (b := 0) hb (by decide)).mp h; omega
  refine ⟨fun _ => ⟨h1, ?_⟩, fun h => absurd h h1⟩
  rw [pk_lDiv ha h0 hb]
  exact h
theorem e_commonMultiple {Q : Int32 → Prop} {a b : Nat} (ha : 0 < a) (hb : 0 < b) (hab : a * b < 2 ^ 31) (h : Q (nI (Nat.lcm a b))) : q6_commonMultiple (nI a) (nI b) Q := by
  have h1 : a ≤ a * b := Nat.le_mul_of_pos_right a hb
  have h2 : b ≤ a * b := Nat.le_mul_of_pos_left b ha
  unfold q6_commonMultiple
  rw [nI_l (by omega), nI_l (by omega), lN_mul]
  refine e_commonDivisor (by omega) (by omega) ?_
  have h3 : Nat.gcd a b ≤ a := Nat.gcd_le_left b ha
  refine e_quotient (by omega) (by omega) (Nat.gcd_pos_of_pos_left b ha) ?_
  rw [lN_i]
  exact h
theorem e_common {Q : Int64 → Prop} : ∀ (b a : Nat), a < 2 ^ 63 → b < 2 ^ 63 → Q (lN (Nat.gcd a b)) → q7_common (lN a) (lN b) Q := by
  intro b
  induction b using Nat.strongRecOn with
  | ind b ih =>
    intro a ha hb h
    unfold q7_common
    by_cases h0 : b = 0
    · subst h0
      rw [Nat.gcd_zero_right] at h
      refine ⟨1, ?_⟩
      unfold q7_common_6
      exact ⟨fun _ => h, fun h => absurd rfl h⟩
    · obtain ⟨k, hk⟩ := ih (a % b) (Nat.mod_lt a (by omega)) b hb (by have := Nat.mod_lt a (show b > 0 by omega); omega) (by rw [Nat.gcd_comm, ← Nat.gcd_rec, Nat.gcd_comm]; exact h)
      refine ⟨k + 1, ?_⟩
      unfold q7_common_6
      have h1 : ¬ lN b = 0 := fun h => h0 ((pk_lEQ (b := 0) hb (by decide)).mp h)
      refine ⟨fun h => absurd h h1, fun _ => ⟨h1, ?_⟩⟩
      rw [pk_lRem ha (by omega) hb]
      exact hk
