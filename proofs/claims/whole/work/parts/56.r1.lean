/-! the reference: its row and what is read off it -/
def alB (p : Nat → Bool) : Nat → Bool
  | 0 => true
  | j + 1 => alB p j && p j
theorem alB_iff {p : Nat → Bool} : ∀ j, alB p j = true ↔ ∀ i, i < j → p i = true := by
  intro j
  induction j with
  | zero => simp only [alB, true_iff]; intro i h; omega
  | succ j ih =>
    simp only [alB, Bool.and_eq_true, ih]
    constructor
    · rintro ⟨a, b⟩ i hi
      by_cases e : i = j
      · subst e; exact b
      · exact a i (by omega)
    · exact fun a => ⟨fun i hi => a i (by omega), a j (by omega)⟩
theorem recB_al (σ : Nat → Nat) (i : Nat) : alB (fun j => decide (σ j < σ i)) i = recB σ i := by
  rw [Bool.eq_iff_iff, alB_iff]
  unfold recB
  rw [decide_eq_true_iff]
  by_cases h : i = 0
  · subst h
    constructor
    · intro _; exact Or.inl rfl
    · intro _ j hj; omega
  · rw [pmx_lt i (by omega)]
    constructor
    · intro a; exact Or.inr (fun j hj => by simpa using a j hj)
    · rintro (a | a) j hj
      · exact absurd a h
      · simpa using a j hj
theorem m_in {a lo hi : Int32} {Q : Int32 → Prop} (h1 : lo ≤ a → a ≤ hi → Q 1) (h0 : (a < lo ∨ hi < a) → Q 0) : q7_in a.toInt64 lo.toInt64 hi.toInt64 Q := by
  unfold q7_in
  rw [fa_wide_lt, fa_wide_lt]
  exact ⟨fun h => h0 (Or.inl h), fun h => ⟨fun g => h0 (Or.inr g), fun g => h1 (fa_of_nlt h) (fa_of_nlt g)⟩⟩
section Ref1
variable {n : Nat} {row work : Nat → Int32} {σ : Nat → Nat}
theorem m_isThing {a : Int32} {Q : Int32 → Prop} (hn : n ≤ 18) (h1n : 1 ≤ n) (h1 : ∀ j, j < n → a = nI j → Q 1) (h0 : (a < 0 ∨ nI n ≤ a) → Q 0) : q7_isThing (nI n) a Q := by
  unfold q7_isThing
  have e : (nI n - (1 : Int32)) = nI (n - 1) := pk_sub (b := 1) h1n
  rw [e]
  refine m_in (lo := 0) (fun g1 g2 => ⟨Or.inr rfl, ?_⟩) (fun g => ⟨Or.inl rfl, ?_⟩)
  · rcases pk_ix a (n := n) (by omega) with h | h | ⟨j, hj, e⟩
    · exact absurd g1 (fa_of_lt h).2.1
    · have := Int32.le_iff_toInt_le.mp h
      have g3 := Int32.le_iff_toInt_le.mp g2
      rw [nI_toInt (by omega)] at this g3
      omega
    · exact h1 j hj e
  · refine h0 ?_
    rcases g with g | g
    · exact Or.inl g
    · refine Or.inr ?_
      rw [Int32.lt_iff_toInt_lt, nI_toInt (by omega)] at g
      rw [Int32.le_iff_toInt_le, nI_toInt (by omega)]
      omega
theorem m_become {Q : (Nat → Int32) → Prop} (hn : n ≤ 18) (h : Q (fa_fill work row n)) : q7_become (nI n) work row Q := by
  unfold q7_become
  refine up2 (q7_become_2 (nI n) work Q) (fun j => nI j) (fun j => fa_fill work row j) 0 n (Nat.zero_le _) (fun k => ?_) (fun k j h1 h2 ih => ?_) rfl (fa_fill_0 _ _).symm
  · unfold q7_become_2
    exact pk_le n n (fun _ => h) (fun h => by omega)
  · unfold q7_become_2
    refine pk_le n j (fun h => by omega) (fun _ => ⟨pk_in j 18 (by omega), pk_in j 18 (by omega), ?_⟩)
    rw [nI_1, nI_clamp (by omega), fa_fill_succ]
    exact ih
theorem m_back {Q : Int32 → (Nat → Int32) → (Nat → Int32) → Prop} (hn : n ≤ 18) (hr : Rw n row σ) (hs : In n σ) (h : Q 1 (fa_fill (scat σ (fun j => nI j) work n) row n) (scat σ (fun j => nI j) work n)) : q7_back (nI n) row work Q := by
  unfold q7_back
  refine up3 (q7_back_2 (nI n) Q) (fun j => nI j) (fun _ => row) (fun j => scat σ (fun j => nI j) work j) 0 n (Nat.zero_le _) (fun k => ?_) (fun k j h1 h2 ih => ?_) rfl rfl rfl
  · unfold q7_back_2
    refine pk_le n n (fun _ => ?_) (fun h => by omega)
    unfold q7_back_28
    exact m_become hn h
  · unfold q7_back_2
    have ha := hs j h2
    rw [nI_clamp (by omega), hr j h2, nI_clamp (by omega)]
    refine pk_le n j (fun h => by omega) (fun _ => ⟨pk_in j 18 (by omega), pk_in (σ j) 18 (by omega), ?_⟩)
    rw [nI_1]
    exact ih
theorem ix18 {p j : Nat} : ((18 : Int32) * nI p) + nI j = nI (18 * p + j) := by
  rw [show (18 : Int32) = nI 18 from rfl, pk_mul, nI_add]
theorem m_then {p : Nat} {shelf : Nat → Int32} {τ : Nat → Nat} {Q : Int32 → (Nat → Int32) → (Nat → Int32) → Prop} (hn : n ≤ 18) (hp : p < 4) (hr : Rw n row σ) (hs : In n σ) (hsh : ∀ j, j < n → shelf (18 * p + j) = nI (τ j)) (h : Q 1 (fa_fill (fa_fill (fun j => nI (τ (σ j))) work n) row n) (fa_fill (fun j => nI (τ (σ j))) work n)) : ∃ k, q7_then_17 (nI n) shelf Q k (nI p) 0 row work := by
  refine up4 (q7_then_17 (nI n) shelf Q) (fun _ => nI p) (fun j => nI j) (fun _ => row) (fun j => fa_fill (fun j => nI (τ (σ j))) work j) 0 n (Nat.zero_le _) (fun k => ?_) (fun k j h1 h2 ih => ?_) rfl rfl rfl (fa_fill_0 _ _).symm
  · unfold q7_then_17
    refine pk_le n n (fun _ => ?_) (fun h => by omega)
    unfold q7_then_53
    exact m_become hn h
  · unfold q7_then_17
    have ha := hs j h2
    rw [nI_clamp (by omega), hr j h2, ix18, nI_clamp (by omega), hsh _ ha]
    refine pk_le n j (fun h => by omega) (fun _ => ⟨pk_in j 18 (by omega), pk_in (18 * p + σ j) 72 (by omega), pk_in j 18 (by omega), ?_⟩)
    rw [nI_1, fa_fill_succ (fun j => nI (τ (σ j)))]
    exact ih
theorem m_take {p : Nat} {shelf : Nat → Int32} {Q : Int32 → (Nat → Int32) → Prop} (hn : n ≤ 18) (hp : p < 4) (h : Q 1 (fa_fill (fun j => shelf (18 * p + j)) row n)) : ∃ k, q7_take_17 (nI n) shelf Q k (nI p) 0 row := by
  refine up3 (q7_take_17 (nI n) shelf Q) (fun _ => nI p) (fun j => nI j) (fun j => fa_fill (fun j => shelf (18 * p + j)) row j) 0 n (Nat.zero_le _) (fun k => ?_) (fun k j h1 h2 ih => ?_) rfl rfl (fa_fill_0 _ _).symm
  · unfold q7_take_17
    exact pk_le n n (fun _ => h) (fun h => by omega)
  · unfold q7_take_17
    rw [nI_clamp (by omega), ix18, nI_clamp (by omega)]
    refine pk_le n j (fun h => by omega) (fun _ => ⟨pk_in (18 * p + j) 72 (by omega), pk_in j 18 (by omega), ?_⟩)
    rw [nI_1, fa_fill_succ (fun j => shelf (18 * p + j))]
    exact ih
theorem m_lay {p : Nat} {shelf : Nat → Int32} {Q : Int32 → (Nat → Int32) → Prop} (hn : n ≤ 18) (hp : p < 4) (h : Q 1 (fb_put shelf row (18 * p) n)) : ∃ k, q7_lay_17 (nI n) row Q k (nI p) 0 shelf := by
  refine up3 (q7_lay_17 (nI n) row Q) (fun _ => nI p) (fun j => nI j) (fun j => fb_put shelf row (18 * p) j) 0 n (Nat.zero_le _) (fun k => ?_) (fun k j h1 h2 ih => ?_) rfl rfl (fb_put_0 _ _ _).symm
  · unfold q7_lay_17
    exact pk_le n n (fun _ => h) (fun h => by omega)
  · unfold q7_lay_17
    rw [nI_clamp (by omega), ix18, nI_clamp (by omega)]
    refine pk_le n j (fun h => by omega) (fun _ => ⟨pk_in j 18 (by omega), pk_in (18 * p + j) 72 (by omega), ?_⟩)
    rw [nI_1, fb_put_succ]
    exact ih
theorem m_roundOf {i : Nat} {Q : Int32 → Prop} (hn : n ≤ 18) (hr : Rw n row σ) (hs : Pm n σ) (hi : i < n) (h : Q (nI (rl σ n i))) : q7_roundOf row (nI i) Q := by
  obtain ⟨h1, h2, h3, h4⟩ := rl_spec hs hi
  unfold q7_roundOf
  refine ⟨pk_in i 18 (by omega), ?_⟩
  rw [nI_clamp (by omega), hr i hi]
  refine up3 (q7_roundOf_9 row Q) (fun _ => nI i) (fun t => nI (t + 1)) (fun t => nI (itr σ (t + 1) i)) 0 (rl σ n i - 1) (Nat.zero_le _) (fun k => ?_) (fun k t _ ht ih => ?_) rfl rfl rfl
  · unfold q7_roundOf_9
    rw [show rl σ n i - 1 + 1 = rl σ n i by omega, h3]
    exact pk_eq i i (fun _ => h) (fun h => absurd rfl h)
  · unfold q7_roundOf_9
    have hlt := itr_lt hs.1 hi (t + 1)
    rw [nI_clamp (by omega), hr _ hlt]
    refine pk_eq (itr σ (t + 1) i) i (fun e => absurd e (h4 _ (by omega) (by omega))) (fun _ => ⟨pk_in (itr σ (t + 1) i) 18 (by omega), ?_⟩)
    rw [nI_1]
    exact ih
theorem m_isRecord {i : Nat} {Q : Int32 → Prop} (hn : n ≤ 18) (hr : Rw n row σ) (hs : In n σ) (hi : i < n) (h : Q (bI (recB σ i))) : q7_isRecord row (nI i) Q := by
  unfold q7_isRecord
  rw [← recB_al] at h
  refine up3 (q7_isRecord_4 row Q) (fun _ => nI i) (fun j => bI (alB (fun j => decide (σ j < σ i)) j)) (fun j => nI j) 0 i (Nat.zero_le _) (fun k => ?_) (fun k j _ hj ih => ?_) rfl rfl rfl
  · unfold q7_isRecord_4
    exact pk_le i i (fun _ => ⟨bI_01 _, h⟩) (fun h => by omega)
  · unfold q7_isRecord_4
    have ha := hs i hi
    have hb := hs j (by omega)
    rw [nI_clamp (by omega), nI_clamp (by omega), hr i hi, hr j (by omega)]
    simp only [alB] at ih
    refine pk_le i j (fun h => by omega) (fun _ => ⟨fun e => ?_, fun e => ⟨pk_in j 18 (by omega), pk_in i 18 (by omega), pk_le (σ i) (σ j) (fun e2 => ?_) (fun e2 => ?_)⟩⟩)
    · unfold q7_isRecord_33
      rw [bI_eq0.mp e, Bool.false_and] at ih
      rw [nI_1]
      exact ih
    · unfold q7_isRecord_33
      rw [show decide (σ j < σ i) = false from decide_eq_false (by omega), Bool.and_false] at ih
      rw [nI_1]
      exact ih
    · unfold q7_isRecord_33
      rw [bI_ne0.mp e, show decide (σ j < σ i) = true from decide_eq_true e2, Bool.and_true] at ih
      rw [nI_1]
      exact ih
theorem m_isFirst {i : Nat} {Q : Int32 → Prop} (hn : n ≤ 18) (hr : Rw n row σ) (hs : Pm n σ) (hi : i < n) (h : Q (bI (mnB σ n i))) : q7_isFirst row (nI i) Q := by
  obtain ⟨h1, h2, h3, h4⟩ := rl_spec hs hi
  unfold q7_isFirst
  refine ⟨pk_in i 18 (by omega), ?_⟩
  rw [nI_clamp (by omega), hr i hi]
  refine up3 (q7_isFirst_9 row Q) (fun _ => nI i) (fun t => bI (alo (fun x => decide (i < x)) σ i t)) (fun t => nI (itr σ (t + 1) i)) 0 (rl σ n i - 1) (Nat.zero_le _) (fun k => ?_) (fun k t _ ht ih => ?_) rfl rfl rfl
  · unfold q7_isFirst_9
    rw [show rl σ n i - 1 + 1 = rl σ n i by omega, h3]
    exact pk_eq i i (fun _ => ⟨bI_01 _, h⟩) (fun h => absurd rfl h)
  · unfold q7_isFirst_9
    have hlt := itr_lt hs.1 hi (t + 1)
    simp only [alo] at ih
    refine pk_eq (itr σ (t + 1) i) i (fun e => absurd e (h4 _ (by omega) (by omega))) (fun _ => ⟨fun e => ?_, fun e => pk_le (itr σ (t + 1) i) i (fun e2 => ?_) (fun e2 => ?_)⟩)
    · unfold q7_isFirst_28
      rw [nI_clamp (by omega), hr _ hlt]
      rw [bI_eq0.mp e, Bool.false_and] at ih
      exact ⟨pk_in (itr σ (t + 1) i) 18 (by omega), ih⟩
    · unfold q7_isFirst_28
      rw [nI_clamp (by omega), hr _ hlt]
      rw [show decide (i < itr σ (t + 1) i) = false from decide_eq_false (by omega), Bool.and_false] at ih
      exact ⟨pk_in (itr σ (t + 1) i) 18 (by omega), ih⟩
    · unfold q7_isFirst_28
      rw [nI_clamp (by omega), hr _ hlt]
      rw [bI_ne0.mp e, show decide (i < itr σ (t + 1) i) = true from decide_eq_true e2, Bool.and_true] at ih
      exact ⟨pk_in (itr σ (t + 1) i) 18 (by omega), ih⟩
theorem m_isGreatest {i : Nat} {Q : Int32 → Prop} (hn : n ≤ 18) (hr : Rw n row σ) (hs : Pm n σ) (hi : i < n) (h : Q (bI (mxB σ n i))) : q7_isGreatest row (nI i) Q := by
  obtain ⟨h1, h2, h3, h4⟩ := rl_spec hs hi
  unfold q7_isGreatest
  refine ⟨pk_in i 18 (by omega), ?_⟩
  rw [nI_clamp (by omega), hr i hi]
  refine up3 (q7_isGreatest_9 row Q) (fun _ => nI i) (fun t => bI (alo (fun x => decide (x < i)) σ i t)) (fun t => nI (itr σ (t + 1) i)) 0 (rl σ n i - 1) (Nat.zero_le _) (fun k => ?_) (fun k t _ ht ih => ?_) rfl rfl rfl
  · unfold q7_isGreatest_9
    rw [show rl σ n i - 1 + 1 = rl σ n i by omega, h3]
    exact pk_eq i i (fun _ => ⟨bI_01 _, h⟩) (fun h => absurd rfl h)
  · unfold q7_isGreatest_9
    have hlt := itr_lt hs.1 hi (t + 1)
    simp only [alo] at ih
    refine pk_eq (itr σ (t + 1) i) i (fun e => absurd e (h4 _ (by omega) (by omega))) (fun _ => ⟨fun e => ?_, fun e => pk_le i (itr σ (t + 1) i) (fun e2 => ?_) (fun e2 => ?_)⟩)
    · unfold q7_isGreatest_28
      rw [nI_clamp (by omega), hr _ hlt]
      rw [bI_eq0.mp e, Bool.false_and] at ih
      exact ⟨pk_in (itr σ (t + 1) i) 18 (by omega), ih⟩
    · unfold q7_isGreatest_28
      rw [nI_clamp (by omega), hr _ hlt]
      rw [show decide (itr σ (t + 1) i < i) = false from decide_eq_false (by omega), Bool.and_false] at ih
      exact ⟨pk_in (itr σ (t + 1) i) 18 (by omega), ih⟩
    · unfold q7_isGreatest_28
      rw [nI_clamp (by omega), hr _ hlt]
      rw [bI_ne0.mp e, show decide (itr σ (t + 1) i < i) = true from decide_eq_true e2, Bool.and_true] at ih
      exact ⟨pk_in (itr σ (t + 1) i) 18 (by omega), ih⟩
theorem m_out {Q : Int32 → Prop} (hn : n ≤ 18) (hr : Rw n row σ) (hs : In n σ) (h : Q (nI (poM σ n))) : q7_out (nI n) row Q := by
  unfold q7_out
  let S : Nat → Nat := fun i => fb_sm (fun i => fb_ct (fun j => decide (i < j) && decide (σ j < σ i)) n) i
  refine up2 (q7_out_4 (nI n) row Q) (fun i => nI (S i)) (fun i => nI i) 0 n (Nat.zero_le _) (fun k => ?_) (fun k i _ hi ih => ?_) rfl rfl
  · unfold q7_out_4
    exact pk_le n n (fun _ => h) (fun h => by omega)
  · unfold q7_out_4
    refine pk_le n i (fun h => by omega) (fun _ => ?_)
    have e0 : fb_ct (fun j => decide (i < j) && decide (σ j < σ i)) (i + 1) = 0 := fb_ct_zero.mpr (fun k hk => by
      rw [show decide (i < k) = false from decide_eq_false (by omega), Bool.false_and])
    refine up3 (q7_out_16 (nI n) row _ Q) (fun j => nI (S i + fb_ct (fun j => decide (i < j) && decide (σ j < σ i)) j)) (fun _ => nI i) (fun j => nI j) (i + 1) n (by omega) (fun k2 => ?_) (fun k2 j hj1 hj ih2 => ?_) (by rw [e0]; rfl) rfl (nI_1 i)
    · unfold q7_out_16
      refine pk_le n n (fun _ => ?_) (fun h => by omega)
      unfold q7_out_53
      rw [nI_1]
      exact ih
    · unfold q7_out_16
      have ha := hs i hi
      have hb := hs j hj
      rw [nI_clamp (by omega), nI_clamp (by omega), hr i hi, hr j hj]
      rw [fb_ct_succ, show decide (i < j) = true from decide_eq_true (by omega), Bool.true_and] at ih2
      refine pk_le n j (fun h => by omega) (fun _ => ⟨pk_in i 18 (by omega), pk_in j 18 (by omega), pk_le (σ i) (σ j) (fun e => ?_) (fun e => ?_)⟩)
      · unfold q7_out_45
        rw [if_neg (by simp; omega)] at ih2
        rw [nI_1, Int32.add_zero]
        exact ih2
      · unfold q7_out_45
        rw [if_pos (by simp; omega)] at ih2
        rw [nI_1, nI_1]
        exact ih2
theorem m_longestRise {Q : Int32 → (Nat → Int32) → Prop} (hn : n ≤ 18) (hr : Rw n row σ) (hs : In n σ) (h : Q (nI (gmx (lv σ) n)) (mdC σ work n)) : q7_longestRise (nI n) row work Q := by
  unfold q7_longestRise
  refine up3 (q7_longestRise_4 (nI n) row Q) (fun j => nI (gmx (lv σ) j)) (fun j => nI j) (fun j => mdC σ work j) 0 n (Nat.zero_le _) (fun k => ?_) (fun k j _ hj ih => ?_) rfl rfl rfl
  · unfold q7_longestRise_4
    exact pk_le n n (fun _ => h) (fun h => by omega)
  · unfold q7_longestRise_4
    have hl : ∀ i, i < n → lv σ i ≤ n := fun i hi => lv_le σ n i hi
    have hg := gmx_le (f := lv σ) (c := n) j (fun i hi => hl i (by omega))
    refine pk_le n j (fun h => by omega) (fun _ => ⟨pk_in j 18 (by omega), ?_⟩)
    rw [nI_clamp (by omega)]
    refine up4 (q7_longestRise_21 (nI n) row _ Q) (fun _ => nI (gmx (lv σ) j)) (fun _ => nI j) (fun i => nI i) (fun i => upd (mdC σ work j) j (nI (inn σ (lv σ) j i + 1))) 0 j (Nat.zero_le _) (fun k2 => ?_) (fun k2 i _ hi ih2 => ?_) rfl rfl rfl rfl
    · unfold q7_longestRise_21
      refine pk_le j j (fun _ => ?_) (fun h => by omega)
      unfold q7_longestRise_87
      have hj9 := hl j hj
      rw [← lv_eq, nI_clamp (by omega), pk_us]
      refine ⟨pk_in j 18 (by omega), pk_le (lv σ j) (gmx (lv σ) j) (fun e => ?_) (fun e => ⟨pk_in j 18 (by omega), ?_⟩)⟩
      · unfold q7_longestRise_107
        rw [nI_1]
        rw [show gmx (lv σ) (j + 1) = gmx (lv σ) j from Nat.max_eq_left e] at ih
        exact ih
      · unfold q7_longestRise_107
        rw [nI_1]
        rw [show gmx (lv σ) (j + 1) = lv σ j from Nat.max_eq_right (by omega)] at ih
        exact ih
    · unfold q7_longestRise_21
      have ha := hs j hj
      have hb := hs i (by omega)
      have h1 := hl i (by omega)
      have h2 := inn_le (σ := σ) (f := lv σ) (j := j) (c := n) i (fun k hk => hl k (by omega))
      rw [nI_clamp (by omega), nI_clamp (by omega), hr i (by omega), hr j hj, pk_us, pk_un (show i ≠ j by omega), mdC_at σ work j i hi, nI_1]
      have keep : inn σ (lv σ) j (i + 1) = inn σ (lv σ) j i → q7_longestRise_74 (nI n) row (fun v0 v1 v2 => q7_longestRise_4 (nI n) row Q k v0 v1 v2) (fun v0 v1 v2 v3 => q7_longestRise_21 (nI n) row (fun v0 v1 v2 => q7_longestRise_4 (nI n) row Q k v0 v1 v2) Q k2 v0 v1 v2 v3) Q (nI j) (nI (gmx (lv σ) j)) (nI j) (nI i) (upd (mdC σ work j) j (nI (inn σ (lv σ) j i + 1))) := fun e => by
        unfold q7_longestRise_74
        refine ⟨pk_in j 18 (by omega), ?_⟩
        unfold q7_longestRise_80
        refine ⟨pk_in j 18 (by omega), ?_⟩
        rw [nI_clamp (by omega), pk_us, nI_1, fa_upd_twice]
        rw [e] at ih2
        exact ih2
      refine pk_le j i (fun h => by omega) (fun _ => ⟨pk_in i 18 (by omega), pk_in j 18 (by omega), pk_le (σ j) (σ i) (fun e => ?_) (fun e => ⟨pk_in i 18 (by omega), pk_in j 18 (by omega), pk_le (lv σ i + 1) (inn σ (lv σ) j i + 1) (fun e2 => ?_) (fun e2 => ⟨pk_in i 18 (by omega), ?_⟩)⟩)⟩)
      · exact keep (if_neg (by omega))
      · exact keep (by rw [show inn σ (lv σ) j (i + 1) = max (inn σ (lv σ) j i) (lv σ i) from if_pos (by omega)]; exact Nat.max_eq_left (by omega))
      · unfold q7_longestRise_80
        refine ⟨pk_in j 18 (by omega), ?_⟩
        rw [show inn σ (lv σ) j (i + 1) = lv σ i by rw [show inn σ (lv σ) j (i + 1) = max (inn σ (lv σ) j i) (lv σ i) from if_pos (by omega)]; exact Nat.max_eq_right (by omega)] at ih2
        rw [nI_clamp (by omega), nI_1, fa_upd_twice]
        exact ih2
end Ref1
