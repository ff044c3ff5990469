/-! the class Order: what its methods answer -/
theorem nI_nle1 {x : Nat} (h : x < 2 ^ 31) : ¬ nI x ≤ (-1 : Int32) := by
  rw [Int32.le_iff_toInt_le, nI_toInt h, show (-1 : Int32).toInt = -1 from by decide]
  omega
section Ord2
variable {n : Nat} {row made : Nat → Int32} {σ : Nat → Nat}
theorem o_roundLength {i : Nat} {Q : Int32 → Prop} (hn : n ≤ 18) (hr : Rw n row σ) (hs : Pm n σ) (hi : i < n) (h : Q (nI (rl σ n i))) : q1_roundLength row (nI n) (nI i) Q := by
  obtain ⟨h1, h2, h3, h4⟩ := rl_spec hs hi
  unfold q1_roundLength
  refine o_follow hn hi (hr i hi) ?_
  refine up3 (q1_roundLength_8 row (nI n) Q) (fun _ => nI i) (fun t => nI (itr σ (t + 1) i)) (fun t => nI (t + 1)) 0 (rl σ n i - 1) (Nat.zero_le _) (fun k => ?_) (fun k t _ ht ih => ?_) rfl rfl rfl
  · unfold q1_roundLength_8
    rw [show rl σ n i - 1 + 1 = rl σ n i by omega, h3]
    exact pk_eq i i (fun _ => h) (fun h => absurd rfl h)
  · unfold q1_roundLength_8
    have hlt := itr_lt hs.1 hi (t + 1)
    refine pk_eq (itr σ (t + 1) i) i (fun e => absurd e (h4 _ (by omega) (by omega))) (fun _ => pk_le n (t + 1) (fun e => by omega) (fun _ => ?_))
    refine o_follow hn hlt (hr _ hlt) ?_
    rw [nI_1]
    exact ih
theorem o_leadsRound {i : Nat} {Q : Int32 → Prop} (hn : n ≤ 18) (hr : Rw n row σ) (hs : Pm n σ) (hi : i < n) (h : Q (bI (mxB σ n i))) : q1_leadsRound row (nI n) (nI i) Q := by
  obtain ⟨h1, h2, h3, h4⟩ := rl_spec hs hi
  have hlow := fa_first_no (fun t => decide (i ≤ itr σ (t + 1) i)) n
  have hyes := fa_first_yes (fun t => decide (i ≤ itr σ (t + 1) i)) n
  generalize hT : fa_first (fun t => decide (i ≤ itr σ (t + 1) i)) n = T at hlow hyes
  have hTn : T < n := by
    rcases Nat.lt_or_ge (rl σ n i - 1) T with a | a
    · have := hlow _ a
      rw [show rl σ n i - 1 + 1 = rl σ n i by omega, h3] at this
      simp at this
    · omega
  have hge : i ≤ itr σ (T + 1) i := by simpa using hyes hTn
  have hmx : (itr σ (T + 1) i = i) ↔ mxB σ n i = true := by
    rw [mxB_iff hs hi]
    constructor
    · intro e k
      rw [itr_mod e k]
      have hm : k % (T + 1) < T + 1 := Nat.mod_lt _ (by omega)
      generalize k % (T + 1) = r at hm
      cases r with
      | zero => exact Nat.le_refl _
      | succ r =>
        have := hlow r (by omega)
        simp at this
        omega
    · intro a
      have := a (T + 1)
      omega
  unfold q1_leadsRound
  refine o_follow hn hi (hr i hi) ?_
  refine up3 (q1_leadsRound_8 row (nI n) Q) (fun _ => nI i) (fun t => nI (itr σ (t + 1) i)) (fun t => nI t) 0 T (Nat.zero_le _) (fun k => ?_) (fun k t _ ht ih => ?_) rfl rfl rfl
  · unfold q1_leadsRound_8
    have hlt := itr_lt hs.1 hi (T + 1)
    refine pk_le n T (fun e => by omega) (fun _ => pk_le i (itr σ (T + 1) i) (fun _ => ?_) (fun e => by omega))
    unfold q1_leadsRound_33
    refine pk_ne (itr σ (T + 1) i) i (fun e => ?_) (fun e => ?_)
    · rw [show mxB σ n i = false by cases hb : mxB σ n i; rfl; exact absurd (hmx.mpr hb) e] at h
      exact h
    · rw [hmx.mp e] at h
      exact h
  · unfold q1_leadsRound_8
    have hlt := itr_lt hs.1 hi (t + 1)
    have hl := hlow t ht
    simp at hl
    refine pk_le n t (fun e => by omega) (fun _ => pk_le i (itr σ (t + 1) i) (fun e => by omega) (fun _ => ?_))
    refine o_follow hn hlt (hr _ hlt) ?_
    rw [nI_1]
    exact ih
theorem o_rounds {Q : Int32 → Prop} (hn : n ≤ 18) (hr : Rw n row σ) (hs : Pm n σ) (h : Q (nI (fb_ct (mxB σ n) n))) : q1_rounds row (nI n) Q := by
  unfold q1_rounds
  refine up2 (q1_rounds_4 row (nI n) Q) (fun j => nI (fb_ct (mxB σ n) j)) (fun j => nI j) 0 n (Nat.zero_le _) (fun k => ?_) (fun k j _ hj ih => ?_) rfl rfl
  · unfold q1_rounds_4
    exact pk_le n n (fun _ => h) (fun h => by omega)
  · unfold q1_rounds_4
    refine pk_le n j (fun h => by omega) (fun _ => o_leadsRound hn hr hs hj ?_)
    rw [fb_ct_succ] at ih
    refine ⟨fun e => ?_, fun e => ?_⟩
    · unfold q1_rounds_23
      rw [bI_eq0.mp e] at ih
      rw [nI_1]
      exact ih
    · unfold q1_rounds_23
      rw [bI_ne0.mp e] at ih
      rw [nI_1, nI_1]
      exact ih
theorem o_records {Q : Int32 → Prop} (hn : n ≤ 18) (hr : Rw n row σ) (hs : In n σ) (h : Q (nI (fb_ct (recB σ) n))) : q1_records row (nI n) Q := by
  unfold q1_records
  refine up3 (q1_records_6 row (nI n) Q) (fun j => nI (fb_ct (recB σ) j)) (fun j => if j = 0 then (-1 : Int32) else nI (pmx σ j)) (fun j => nI j) 0 n (Nat.zero_le _) (fun k => ?_) (fun k j _ hj ih => ?_) rfl rfl rfl
  · unfold q1_records_6
    exact pk_le n n (fun _ => h) (fun h => by omega)
  · unfold q1_records_6
    have hsj := hs j hj
    refine pk_le n j (fun h => by omega) (fun _ => ⟨pk_in j 18 (by omega), ?_⟩)
    rw [nI_clamp (by omega), hr j hj]
    rw [fb_ct_succ, if_neg (by omega : ¬ j + 1 = 0)] at ih
    by_cases h0 : j = 0
    · subst h0
      rw [if_pos rfl]
      refine ⟨fun e => absurd e (nI_nle1 (by omega)), fun _ => ⟨pk_in 0 18 (by omega), ?_⟩⟩
      unfold q1_records_34
      rw [nI_1, nI_1]
      rw [show pmx σ (0 + 1) = σ 0 from Nat.zero_max _, if_pos (by simp [recB])] at ih
      exact ih
    · rw [if_neg h0]
      have hp : pmx σ j < n := pmx_lim hs j (by omega) (by omega)
      refine pk_le (σ j) (pmx σ j) (fun e => ?_) (fun e => ⟨pk_in j 18 (by omega), ?_⟩)
      · unfold q1_records_34
        rw [nI_1]
        rw [show pmx σ (j + 1) = pmx σ j from Nat.max_eq_left e, if_neg (by simp [recB]; omega)] at ih
        exact ih
      · unfold q1_records_34
        rw [nI_1, nI_1]
        rw [show pmx σ (j + 1) = σ j from Nat.max_eq_right (by omega), if_pos (by simp [recB]; omega)] at ih
        exact ih
theorem o_rises {Q : Int32 → Prop} (hn : n ≤ 18) (h1n : 1 ≤ n) (hr : Rw n row σ) (hs : In n σ) (h : Q (nI (fb_ct (fun i => decide (σ i < σ (i + 1))) (n - 1)))) : q1_rises row (nI n) Q := by
  unfold q1_rises
  refine up2 (q1_rises_4 row (nI n) Q) (fun j => nI (fb_ct (fun i => decide (σ i < σ (i + 1))) j)) (fun j => nI j) 0 (n - 1) (Nat.zero_le _) (fun k => ?_) (fun k j _ hj ih => ?_) rfl rfl
  · unfold q1_rises_4
    rw [nI_1]
    exact pk_le n (n - 1 + 1) (fun _ => h) (fun h => by omega)
  · unfold q1_rises_4
    have ha := hs j (by omega)
    have hb := hs (j + 1) (by omega)
    rw [nI_1, nI_clamp (by omega), nI_clamp (by omega), hr j (by omega), hr (j + 1) (by omega)]
    rw [fb_ct_succ] at ih
    refine pk_le n (j + 1) (fun h => by omega) (fun _ => ⟨pk_in j 18 (by omega), pk_in (j + 1) 18 (by omega), pk_le (σ (j + 1)) (σ j) (fun e => ?_) (fun e => ?_)⟩)
    · unfold q1_rises_34
      rw [if_neg (by simp; omega)] at ih
      rw [nI_1]
      exact ih
    · unfold q1_rises_34
      rw [if_pos (by simp; omega)] at ih
      rw [nI_1, nI_1]
      exact ih
theorem o_still {Q : Int32 → Prop} (hn : n ≤ 18) (hr : Rw n row σ) (hs : In n σ) (h : Q (nI (fb_ct (fun i => decide (σ i = i)) n))) : q1_still row (nI n) Q := by
  unfold q1_still
  refine up2 (q1_still_4 row (nI n) Q) (fun j => nI (fb_ct (fun i => decide (σ i = i)) j)) (fun j => nI j) 0 n (Nat.zero_le _) (fun k => ?_) (fun k j _ hj ih => ?_) rfl rfl
  · unfold q1_still_4
    exact pk_le n n (fun _ => h) (fun h => by omega)
  · unfold q1_still_4
    have ha := hs j hj
    rw [nI_clamp (by omega), hr j hj]
    rw [fb_ct_succ] at ih
    refine pk_le n j (fun h => by omega) (fun _ => ⟨pk_in j 18 (by omega), pk_ne (σ j) j (fun e => ?_) (fun e => ?_)⟩)
    · unfold q1_still_25
      rw [if_neg (by simpa using e)] at ih
      rw [nI_1]
      exact ih
    · unfold q1_still_25
      rw [if_pos (by simpa using e)] at ih
      rw [nI_1, nI_1]
      exact ih
theorem o_longestRound {Q : Int32 → Prop} (hn : n ≤ 18) (hr : Rw n row σ) (hs : Pm n σ) (h : Q (nI (gmx (rl σ n) n))) : q1_longestRound row (nI n) Q := by
  unfold q1_longestRound
  refine up2 (q1_longestRound_4 row (nI n) Q) (fun j => nI (gmx (rl σ n) j)) (fun j => nI j) 0 n (Nat.zero_le _) (fun k => ?_) (fun k j _ hj ih => ?_) rfl rfl
  · unfold q1_longestRound_4
    exact pk_le n n (fun _ => h) (fun h => by omega)
  · unfold q1_longestRound_4
    have h1 := (rl_spec hs hj).2.1
    have h2 := gmx_le (f := rl σ n) (c := n) j (fun i hi => (rl_spec hs (by omega)).2.1)
    refine pk_le n j (fun h => by omega) (fun _ => o_roundLength hn hr hs hj ?_)
    rw [nI_max (by omega) (by omega), nI_1]
    exact ih
theorem o_pairsOut {Q : Int32 → Prop} (hn : n ≤ 18) (hr : Rw n row σ) (hs : In n σ) (h : Q (nI (poC σ n))) : q1_pairsOut row (nI n) Q := by
  unfold q1_pairsOut
  refine up2 (q1_pairsOut_4 row (nI n) Q) (fun j => nI (poC σ j)) (fun j => nI j) 0 n (Nat.zero_le _) (fun k => ?_) (fun k j _ hj ih => ?_) rfl rfl
  · unfold q1_pairsOut_4
    exact pk_le n n (fun _ => h) (fun h => by omega)
  · unfold q1_pairsOut_4
    refine pk_le n j (fun h => by omega) (fun _ => ?_)
    refine up3 (q1_pairsOut_14 row (nI n) _ Q) (fun i => nI (poC σ j + fb_ct (fun i => decide (σ j < σ i)) i)) (fun _ => nI j) (fun i => nI i) 0 j (Nat.zero_le _) (fun k2 => ?_) (fun k2 i _ hi ih2 => ?_) rfl rfl rfl
    · unfold q1_pairsOut_14
      refine pk_le j j (fun _ => ?_) (fun h => by omega)
      unfold q1_pairsOut_43
      rw [nI_1]
      exact ih
    · unfold q1_pairsOut_14
      have ha := hs j hj
      have hb := hs i (by omega)
      rw [nI_clamp (by omega), nI_clamp (by omega), hr i (by omega), hr j hj]
      rw [fb_ct_succ] at ih2
      refine pk_le j i (fun h => by omega) (fun _ => ⟨pk_in i 18 (by omega), pk_in j 18 (by omega), pk_le (σ i) (σ j) (fun e => ?_) (fun e => ?_)⟩)
      · unfold q1_pairsOut_37
        rw [if_neg (by simp; omega)] at ih2
        rw [nI_1]
        exact ih2
      · unfold q1_pairsOut_37
        rw [if_pos (by simp; omega)] at ih2
        rw [nI_1, nI_1]
        exact ih2
/-- the row of longest rises, written from the left -/
def mdC (σ : Nat → Nat) (made : Nat → Int32) : Nat → Nat → Int32
  | 0 => made
  | j + 1 => upd (mdC σ made j) j (nI (lv σ j))
theorem mdC_at (σ : Nat → Nat) (made : Nat → Int32) : ∀ j i, i < j → mdC σ made j i = nI (lv σ i) := by
  intro j
  induction j with
  | zero => intro i h; omega
  | succ j ih =>
    intro i h
    show upd (mdC σ made j) j (nI (lv σ j)) i = _
    by_cases e : i = j
    · subst e; exact pk_us
    · rw [pk_un e]; exact ih i (by omega)
theorem o_longestRise {Q : Int32 → (Nat → Int32) → Prop} (hn : n ≤ 18) (hr : Rw n row σ) (hs : In n σ) (h : Q (nI (gmx (lv σ) n)) (mdC σ made n)) : q1_longestRise row (nI n) made Q := by
  unfold q1_longestRise
  refine up3 (q1_longestRise_4 row (nI n) Q) (fun j => nI (gmx (lv σ) j)) (fun j => nI j) (fun j => mdC σ made j) 0 n (Nat.zero_le _) (fun k => ?_) (fun k j _ hj ih => ?_) rfl rfl rfl
  · unfold q1_longestRise_4
    exact pk_le n n (fun _ => h) (fun h => by omega)
  · unfold q1_longestRise_4
    refine pk_le n j (fun h => by omega) (fun _ => ?_)
    have hl : ∀ i, i < n → lv σ i ≤ n := fun i hi => lv_le σ n i hi
    have hg := gmx_le (f := lv σ) (c := n) j (fun i hi => hl i (by omega))
    refine up5 (q1_longestRise_17 row (nI n) _ Q) (fun _ => nI (gmx (lv σ) j)) (fun _ => nI j) (fun i => nI (inn σ (lv σ) j i)) (fun i => nI i) (fun _ => mdC σ made j) 0 j (Nat.zero_le _) (fun k2 => ?_) (fun k2 i _ hi ih2 => ?_) rfl rfl rfl rfl rfl
    · unfold q1_longestRise_17
      refine pk_le j j (fun _ => ?_) (fun h => by omega)
      unfold q1_longestRise_57
      have := hl j hj
      refine ⟨pk_in j 18 (by omega), pk_in j 18 (by omega), ?_⟩
      rw [nI_clamp (by omega), nI_1, nI_1, pk_us, ← lv_eq, nI_max (by omega) (by omega)]
      exact ih
    · unfold q1_longestRise_17
      have ha := hs j hj
      have hb := hs i (by omega)
      rw [nI_clamp (by omega), nI_clamp (by omega), hr i (by omega), hr j hj, mdC_at σ made j i hi]
      refine pk_le j i (fun h => by omega) (fun _ => ⟨pk_in i 18 (by omega), pk_in j 18 (by omega), pk_le (σ j) (σ i) (fun e => ?_) (fun e => ⟨pk_in i 18 (by omega), ?_⟩)⟩)
      · unfold q1_longestRise_51
        rw [show inn σ (lv σ) j (i + 1) = inn σ (lv σ) j i from if_neg (by omega)] at ih2
        rw [nI_1]
        exact ih2
      · unfold q1_longestRise_51
        have h1 := hl i (by omega)
        have h2 := inn_le (σ := σ) (f := lv σ) (j := j) (c := n) i (fun k hk => hl k (by omega))
        rw [show inn σ (lv σ) j (i + 1) = max (inn σ (lv σ) j i) (lv σ i) from if_pos (by omega)] at ih2
        rw [nI_1, nI_max (by omega) (by omega)]
        exact ih2
theorem o_turns {Q : Int32 → Prop} (hn : n ≤ 18) (hr : Rw n row σ) (hs : Pm n σ) (h : Q (nI (tuL σ n n))) : q1_turns row (nI n) Q := by
  unfold q1_turns
  refine up2 (q1_turns_4 row (nI n) Q) (fun j => nI (tuL σ n j)) (fun j => nI j) 0 n (Nat.zero_le _) (fun k => ?_) (fun k j _ hj ih => ?_) rfl rfl
  · unfold q1_turns_4
    exact pk_le n n (fun _ => h) (fun h => by omega)
  · unfold q1_turns_4
    refine pk_le n j (fun h => by omega) (fun _ => o_leadsRound hn hr hs hj ?_)
    refine ⟨fun e => ?_, fun e => ?_⟩
    · unfold q1_turns_30
      rw [show tuL σ n (j + 1) = tuL σ n j from if_neg (by rw [bI_eq0.mp e]; decide)] at ih
      rw [nI_1]
      exact ih
    · rw [show tuL σ n (j + 1) = Nat.lcm (tuL σ n j) (rl σ n j) from if_pos (bI_ne0.mp e)] at ih
      refine o_roundLength hn hr hs hj ?_
      obtain ⟨a, b, -, -⟩ := rl_spec hs hj
      obtain ⟨-, c, d⟩ := tuL_lim hn hs j (by omega)
      have hm : tuL σ n j * rl σ n j ≤ 12252240 * 18 := Nat.mul_le_mul d (by omega)
      refine e_commonMultiple c (by omega) (by omega) ?_
      unfold q1_turns_30
      rw [nI_1]
      exact ih
/-- the number of each kind -/
def num (σ : Nat → Nat) (n : Nat) : Nat → Nat
  | 0 => fb_ct (mxB σ n) n
  | 1 => fb_ct (recB σ) n
  | 2 => fb_ct (fun i => decide (σ i < σ (i + 1))) (n - 1)
  | 3 => fb_ct (fun i => decide (σ i = i)) n
  | 4 => gmx (rl σ n) n
  | 5 => poC σ n
  | 6 => gmx (lv σ) n
  | _ => tuL σ n n
theorem o_numberOf {k : Nat} (hk : k < 8) {Q : Int32 → (Nat → Int32) → Prop} (hn : n ≤ 18) (h1n : 1 ≤ n) (hr : Rw n row σ) (hs : Pm n σ) (h : ∀ made', Q (nI (num σ n k)) made') : q1_numberOf row (nI n) made (nI k) Q := by
  unfold q1_numberOf
  refine pk_eq k 0 (fun e => ?_) (fun _ => pk_eq k 1 (fun e => ?_) (fun _ => pk_eq k 2 (fun e => ?_) (fun _ => pk_eq k 3 (fun e => ?_) (fun _ => pk_eq k 4 (fun e => ?_) (fun _ => pk_eq k 5 (fun e => ?_) (fun _ => pk_eq k 6 (fun e => ?_) (fun _ => pk_eq k 7 (fun e => ?_) (fun _ => by omega))))))))
  · subst e; exact o_rounds hn hr hs (h _)
  · subst e; exact o_records hn hr hs.1 (h _)
  · subst e; exact o_rises hn h1n hr hs.1 (h _)
  · subst e; exact o_still hn hr hs.1 (h _)
  · subst e; exact o_longestRound hn hr hs (h _)
  · subst e; exact o_pairsOut hn hr hs.1 (h _)
  · subst e; exact o_longestRise hn hr hs.1 (h _)
  · subst e; exact o_turns hn hr hs (h _)
end Ord2
