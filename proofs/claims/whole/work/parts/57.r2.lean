/-! the reference's numbers, and its beginning -/
section Ref2
variable {n : Nat} {row work : Nat → Int32} {σ : Nat → Nat}
def kpB (σ : Nat → Nat) (n k i : Nat) : Bool := if k = 0 then mnB σ n i else if k = 1 then recB σ i else if k = 2 then decide (i < n - 1) && decide (σ i < σ (i + 1)) else decide (σ i = i)
theorem tu_step {σ : Nat → Nat} {n j : Nat} (hn : n ≤ 18) (hs : Pm n σ) (hj : j < n) : lN (tuA σ n j) / lN (Nat.gcd (tuA σ n j) (rl σ n j)) * lN (rl σ n j) = lN (tuA σ n (j + 1)) := by
  obtain ⟨a, b, -, -⟩ := rl_spec hs hj
  obtain ⟨-, c, d⟩ := tuA_lim hn hs j (by omega)
  have hg := Nat.gcd_pos_of_pos_left (rl σ n j) c
  have hg2 := Nat.gcd_le_left (rl σ n j) c
  rw [pk_lDiv (by omega) hg (by omega), lN_mul]
  congr 1
  show _ = Nat.lcm (tuA σ n j) (rl σ n j)
  unfold Nat.lcm
  rw [Nat.mul_comm (tuA σ n j / _), Nat.mul_comm (tuA σ n j)]
  exact (Nat.mul_div_assoc _ (Nat.gcd_dvd_left _ _)).symm
theorem m_num144 {k x2 x3 x6 : Nat} {x4 : Int64} {b : Bool} {K : Int32 → Int32 → Int32 → Int64 → Int32 → (Nat → Int32) → Prop} {Q : Int32 → (Nat → Int32) → Prop} (h : K (nI k) (nI (x2 + if b = true then 1 else 0)) (nI x3) x4 (nI (x6 + 1)) work) : q7_numberOf_144 (nI n) row K Q (bI b) (nI k) (nI x2) (nI x3) x4 (nI x6) work := by
  unfold q7_numberOf_144 q7_numberOf_157
  refine ⟨fun e => ?_, fun e => ?_⟩
  · rw [bI_eq0.mp e] at h
    rw [nI_1, Int32.add_zero]
    exact h
  · rw [bI_ne0.mp e] at h
    rw [nI_1, nI_1]
    exact h
theorem m_num39 {k x2 x3 j : Nat} (hk : k < 8) (hj : j < n) (hn : n ≤ 18) (hr : Rw n row σ) (hs : Pm n σ) {K : Int32 → Int32 → Int32 → Int64 → Int32 → (Nat → Int32) → Prop} {Q : Int32 → (Nat → Int32) → Prop} (h : K (nI k) (nI (x2 + if kpB σ n k j = true then 1 else 0)) (nI x3) (lN (tuA σ n (j + 1))) (nI (j + 1)) work) : q7_numberOf_39 (nI n) row K Q (nI x3) (nI k) (nI x2) (lN (tuA σ n j)) (nI j) (nI (rl σ n j)) work := by
  obtain ⟨a, b, -, -⟩ := rl_spec hs hj
  obtain ⟨-, c, d⟩ := tuA_lim hn hs j (by omega)
  unfold q7_numberOf_39
  rw [nI_l (by omega)]
  refine e_common _ _ (by omega) (by omega) ?_
  have hg := Nat.gcd_pos_of_pos_left (rl σ n j) c
  have hg2 := Nat.gcd_le_left (rl σ n j) c
  rw [tu_step hn hs hj]
  have ha := hs.1 j hj
  refine ⟨fun e => by have := (pk_lEQ (b := 0) (by omega) (by decide)).mp e; omega, ?_⟩
  refine pk_ne k 0 (fun e0 => pk_ne k 1 (fun e1 => pk_ne k 2 (fun e2 => ⟨pk_in j 18 (by omega), ?_⟩) (fun e2 => ?_)) (fun e1 => ?_)) (fun e0 => ?_)
  · have e : kpB σ n k j = decide (σ j = j) := by unfold kpB; rw [if_neg e0, if_neg e1, if_neg e2]
    rw [nI_clamp (by omega), hr j hj]
    refine pk_ne (σ j) j (fun g => ?_) (fun g => ?_)
    · exact m_num144 (b := false) (by rw [e, decide_eq_false g] at h; exact h)
    · exact m_num144 (b := true) (by rw [e, decide_eq_true g] at h; exact h)
  · have e : kpB σ n k j = (decide (j < n - 1) && decide (σ j < σ (j + 1))) := by unfold kpB; rw [if_neg e0, if_neg e1, if_pos e2]
    have en : (nI n - (1 : Int32)) = nI (n - 1) := pk_sub (b := 1) (by omega)
    rw [en, nI_1]
    refine pk_le (n - 1) j (fun g => ?_) (fun g => ⟨pk_in j 18 (by omega), pk_in (j + 1) 18 (by omega), ?_⟩)
    · exact m_num144 (b := false) (by rw [e, decide_eq_false (show ¬ j < n - 1 by omega)] at h; exact h)
    · have hb := hs.1 (j + 1) (by omega)
      rw [nI_clamp (by omega), nI_clamp (by omega), hr j hj, hr (j + 1) (by omega)]
      refine pk_le (σ (j + 1)) (σ j) (fun g2 => ?_) (fun g2 => ?_)
      · exact m_num144 (b := false) (by rw [e, decide_eq_false (show ¬ σ j < σ (j + 1) by omega), Bool.and_false] at h; exact h)
      · exact m_num144 (b := true) (by rw [e, decide_eq_true (show j < n - 1 by omega), decide_eq_true g2] at h; exact h)
  · have e : kpB σ n k j = recB σ j := by unfold kpB; rw [if_neg e0, if_pos e1]
    rw [e] at h
    exact m_isRecord hn hr hs.1 hj (m_num144 h)
  · have e : kpB σ n k j = mnB σ n j := by unfold kpB; rw [if_pos e0]
    rw [e] at h
    exact m_isFirst hn hr hs hj (m_num144 h)
theorem ct2 (σ : Nat → Nat) {n : Nat} (h : 1 ≤ n) : fb_ct (fun i => decide (i < n - 1) && decide (σ i < σ (i + 1))) n = fb_ct (fun i => decide (σ i < σ (i + 1))) (n - 1) := by
  obtain ⟨m, rfl⟩ : ∃ m, n = m + 1 := ⟨n - 1, by omega⟩
  rw [Nat.add_sub_cancel, fb_ct_succ, show decide (m < m) = false from decide_eq_false (by omega), Bool.false_and, if_neg (by decide), Nat.add_zero]
  exact fb_ct_cong (fun k hk => by rw [decide_eq_true hk, Bool.true_and])
theorem m_numberOf {k : Nat} (hk : k < 8) {Q : Int32 → (Nat → Int32) → Prop} (hn : n ≤ 18) (h1n : 1 ≤ n) (hr : Rw n row σ) (hs : Pm n σ) (h : ∀ work', Q (nI (num σ n k)) work') : q7_numberOf (nI n) row work (nI k) Q := by
  unfold q7_numberOf
  refine up6 (q7_numberOf_10 (nI n) row Q) (fun _ => nI k) (fun j => nI (fb_ct (kpB σ n k) j)) (fun j => nI (gmx (rl σ n) j)) (fun j => lN (tuA σ n j)) (fun j => nI j) (fun _ => work) 0 n (Nat.zero_le _) (fun k2 => ?_) (fun k2 j _ hj ih => ?_) rfl rfl rfl rfl rfl rfl
  · unfold q7_numberOf_10
    refine pk_le n n (fun _ => ?_) (fun h => by omega)
    unfold q7_numberOf_165
    refine pk_le 4 k (fun e => pk_ne k 4 (fun e4 => pk_ne k 5 (fun e5 => pk_ne k 6 (fun e6 => ?_) (fun e6 => ?_)) (fun e5 => ?_)) (fun e4 => ?_)) (fun e => ?_)
    · have : k = 7 := by omega
      subst this
      rw [lN_i, ← tu_same hs]
      exact h work
    · subst e6
      exact m_longestRise hn hr hs.1 (h _)
    · subst e5
      exact m_out hn hr hs.1 (by rw [← po_same]; exact h work)
    · subst e4; exact h work
    · have e9 : fb_ct (kpB σ n k) n = num σ n k := by
        rcases (show k = 0 ∨ k = 1 ∨ k = 2 ∨ k = 3 by omega) with rfl | rfl | rfl | rfl
        · exact (rounds_same hs).symm
        · rfl
        · exact ct2 σ h1n
        · rfl
      rw [e9]
      exact h work
  · unfold q7_numberOf_10
    have h1 := (rl_spec hs hj).2.1
    have h2 := gmx_le (f := rl σ n) (c := n) j (fun i hi => (rl_spec hs (by omega)).2.1)
    refine pk_le n j (fun h => by omega) (fun _ => m_roundOf hn hr hs hj ?_)
    rw [fb_ct_succ] at ih
    refine pk_le (rl σ n j) (gmx (rl σ n) j) (fun e => ?_) (fun e => ?_)
    · rw [show gmx (rl σ n) (j + 1) = gmx (rl σ n) j from Nat.max_eq_left e] at ih
      exact m_num39 hk hj hn hr hs ih
    · rw [show gmx (rl σ n) (j + 1) = rl σ n j from Nat.max_eq_right (by omega)] at ih
      exact m_num39 hk hj hn hr hs ih
/-- the reference's beginning -/
def shB (shelf : Nat → Int32) : Nat → Nat → Nat → Int32
  | 0, _ => shelf
  | i + 1, 0 => shB shelf i 4
  | i + 1, p + 1 => upd (shB shelf (i + 1) p) (18 * p + i) (nI i)
theorem shB_0 (shelf : Nat → Int32) (i : Nat) : shB shelf (i + 1) 0 = shB shelf i 4 := by
  simp only [shB]
theorem shB_s (shelf : Nat → Int32) (i p : Nat) : shB shelf (i + 1) (p + 1) = upd (shB shelf (i + 1) p) (18 * p + i) (nI i) := by
  simp only [shB]
theorem shB_at (shelf : Nat → Int32) : ∀ i p, p ≤ 4 → i ≤ 18 → (∀ j q, j + 1 < i → q < 4 → shB shelf i p (18 * q + j) = nI j) ∧ (∀ q, q < p → ∀ j, j + 1 = i → shB shelf i p (18 * q + j) = nI j) := by
  intro i
  induction i with
  | zero => intro p _ _; exact ⟨fun j q h => by omega, fun q h j hj => by omega⟩
  | succ i ih =>
    intro p
    induction p with
    | zero =>
      intro _ h18
      rw [shB_0]
      obtain ⟨a, b⟩ := ih 4 (by omega) (by omega)
      refine ⟨fun j q h hq => ?_, fun q h => by omega⟩
      by_cases e : j + 1 = i
      · exact b q hq j e
      · exact a j q (by omega) hq
    | succ p ihp =>
      intro h4 h18
      obtain ⟨a, b⟩ := ihp (by omega) h18
      rw [shB_s]
      refine ⟨fun j q h hq => ?_, fun q h j hj => ?_⟩
      · rw [pk_un (by omega)]; exact a j q h hq
      · have : j = i := by omega
        subst this
        by_cases e : q = p
        · subst e; exact pk_us
        · rw [pk_un (by omega)]; exact b q (by omega) j rfl
theorem m_begin {a : Nat} {shelf listed : Nat → Int32} {op : Int32} {Q : (Nat → Int32) → (Nat → Int32) → Int32 → (Nat → Int32) → Prop} (ha : a ≤ 18) (h : Q (fa_fill (fun j => nI j) row 18) (shB shelf 18 4) (nI (min 2 a)) (fa_fill (fun _ => 0) listed 18)) (h1 : 1 ≤ a) : q7_begin (nI a) row shelf op listed Q := by
  unfold q7_begin
  refine up5 (q7_begin_2 (nI a) Q) (fun j => nI j) (fun j => fa_fill (fun j => nI j) row j) (fun j => shB shelf j 4) (fun _ => op) (fun j => fa_fill (fun _ => 0) listed j) 0 18 (Nat.zero_le _) (fun k => ?_) (fun k j _ hj ih => ?_) rfl (fa_fill_0 _ _).symm (by simp only [shB]) rfl (fa_fill_0 _ _).symm
  · unfold q7_begin_2
    refine pk_le 18 18 (fun _ => ?_) (fun h => by omega)
    unfold q7_begin_53
    refine pk_le 2 a (fun e => ?_) (fun e => ?_)
    · rw [Nat.min_eq_left e] at h; exact h
    · have : a = 1 := by omega
      subst this; exact h
  · unfold q7_begin_2
    refine pk_le 18 j (fun h => by omega) (fun _ => ⟨pk_in j 18 (by omega), pk_in j 18 (by omega), ?_⟩)
    rw [nI_clamp (by omega), fa_fill_succ (fun j => nI j), fa_fill_succ (fun _ => (0 : Int32))]
    refine up6 (q7_begin_24 (nI a) _ Q) (fun _ => nI j) (fun p => nI p) (fun _ => fa_fill (fun j => nI j) row (j + 1)) (fun p => shB shelf (j + 1) p) (fun _ => op) (fun _ => fa_fill (fun _ => 0) listed (j + 1)) 0 4 (Nat.zero_le _) (fun k2 => ?_) (fun k2 p _ hp ih2 => ?_) rfl rfl rfl (shB_0 shelf j).symm rfl rfl
    · unfold q7_begin_24
      refine pk_le 4 4 (fun _ => ?_) (fun h => by omega)
      unfold q7_begin_47
      rw [nI_1]
      exact ih
    · unfold q7_begin_24
      rw [ix18, nI_clamp (by omega), nI_1]
      refine pk_le 4 p (fun h => by omega) (fun _ => ⟨pk_in (18 * p + j) 72 (by omega), ?_⟩)
      rw [shB_s] at ih2
      exact ih2
end Ref2
