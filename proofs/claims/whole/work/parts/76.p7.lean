/-! the class's count of the rows that all win by told lists -/
def opB (ln : Nat → Nat) (bx : Nat → Nat → Nat) (k b x : Nat) : Bool := anB (fun i => decide (bx x i = b)) (min (ln x) k)
def mtB (ln : Nat → Nat) (bx : Nat → Nat → Nat) (k x b : Nat) : Nat := if opB ln bx k b x = true then 1 else 0
def cb (s : Nat) : Nat := fb_ct (fun b => s.testBit b) 7
theorem cb_le (s : Nat) : cb s ≤ 7 := fb_ct_le _ _
theorem bs_1 : ∀ s, s < 128 → ∀ b, b < 7 → s.testBit b = true → cb (s - 2 ^ b) + 1 = cb s ∧ 2 ^ b ≤ s ∧ 0 < 2 ^ b ∧ (∀ y, y < 7 → (s - 2 ^ b).testBit y = (if y = b then false else s.testBit y)) := by decide +kernel
theorem bs_2 : ∀ s, s < 128 → s ≠ 0 → 1 ≤ cb s := by decide +kernel
theorem bs_3 : ∀ s, s < 128 → ∀ x, x < 7 → s.testBit x = false → (s + 2 ^ x).testBit x = true ∧ 0 < 2 ^ x := by decide +kernel
theorem bs_3b : ∀ s, s < 128 → ∀ x, x < 7 → ∀ n, n < 8 → (s.testBit x = false ∧ s < 2 ^ n ∧ x < n) → s + 2 ^ x < 2 ^ n := by decide +kernel
theorem bs_4 : ∀ a, a < 7 → ∀ b, b < 7 → 2 ^ a = 2 ^ b → a = b := by decide +kernel
theorem bs_5 : ∀ s, s < 128 → ∀ x, x < 7 → (nI s ||| ((1 : Int32) <<< (nI x &&& 31))) = nI (if s.testBit x = true then s else s + 2 ^ x) := by decide +kernel
theorem bs_6 : ∀ n, n < 8 → 0 < 2 ^ n ∧ 2 ^ n ≤ 128 ∧ (∀ y, y < n → (2 ^ n - 1).testBit y = true) ∧ cb (2 ^ n - 1) = n := by decide +kernel
theorem bs_bc : ∀ s, s < 128 → q6_bitCount_0f7a4 (nI s) (fun r => r = nI (cb s)) := by
  intro s hs
  unfold q6_bitCount_0f7a4
  show _ = _
  revert s
  decide +kernel
theorem bs_b {s : Nat} {Q : Int32 → Prop} (hs : s < 128) (h : Q (nI (cb s))) : q6_bitCount_0f7a4 (nI s) Q := by
  have e := bs_bc s hs
  unfold q6_bitCount_0f7a4 at e ⊢
  exact (congrArg Q e).mpr h
section Won
variable {n k : Nat} {ln : Nat → Nat} {bx : Nat → Nat → Nat}
def Wt (n k : Nat) (ln : Nat → Nat) (bx : Nat → Nat → Nat) (s : Nat) : Nat := permR (mtB ln bx k) (dnL (cb s)) (elA (fun b => s.testBit b) n)
def ptW (n k : Nat) (ln : Nat → Nat) (bx : Nat → Nat → Nat) (s0 t : Nat) : Nat := (if t = 0 then 1 else 0) + fb_sm (fun b => if t.testBit b = true ∧ t - 2 ^ b < s0 then mtB ln bx k (cb t - 1) b * Wt n k ln bx (t - 2 ^ b) else 0) n
def edW (bx : Nat → Nat → Nat) (s t j : Nat) : Bool := anB (fun i => decide (s.testBit (bx (cb s) i) = false ∧ t = s + 2 ^ (bx (cb s) i))) j
theorem sm_0 {f : Nat → Nat} : ∀ n, (∀ b, b < n → f b = 0) → fb_sm f n = 0 := by
  intro n
  induction n with
  | zero => intro _; rfl
  | succ n ih => intro h; rw [fb_sm_succ, ih (fun b hb => h b (by omega)), h n (by omega)]
theorem ptW_0 {t : Nat} : ptW n k ln bx 0 t = if t = 0 then 1 else 0 := by
  unfold ptW
  rw [sm_0 n (fun b _ => if_neg (fun h => by omega)), Nat.add_zero]
theorem ptW_self {t : Nat} (hn : n ≤ 7) (ht : t < 2 ^ n) : ptW n k ln bx t t = Wt n k ln bx t := by
  obtain ⟨-, h128, -, -⟩ := bs_6 n (by omega)
  unfold ptW
  by_cases e : t = 0
  · subst e
    rw [if_pos rfl, sm_0 n (fun b _ => if_neg (fun h => by omega))]
    rfl
  · rw [if_neg e, Nat.zero_add]
    have h1 := bs_2 t (by omega) e
    obtain ⟨p, hp⟩ : ∃ p, cb t = p + 1 := ⟨cb t - 1, by omega⟩
    unfold Wt
    rw [hp, Nat.add_sub_cancel]
    show _ = sumP (fun x R => mtB ln bx k p x * permR (mtB ln bx k) (dnL p) R) (elA (fun b => t.testBit b) n)
    rw [sumP_elA]
    refine fb_sm_cong (fun b hb => ?_)
    by_cases g : t.testBit b = true
    · obtain ⟨a1, a2, a3, a4⟩ := bs_1 t (by omega) b (by omega) g
      rw [if_pos ⟨g, by omega⟩, if_pos g, show cb (t - 2 ^ b) = p by omega]
      congr 2
      exact elA_cong n (fun y hy => a4 y (by omega))
    · rw [if_neg (fun h => g h.1), if_neg g]
theorem ptW_s {s t : Nat} (hn : n ≤ 7) (hs : s < 2 ^ n) (ht : t < 2 ^ n) (hb : ∀ i, i < min (ln (cb s)) k → bx (cb s) i < n) : ptW n k ln bx (s + 1) t = ptW n k ln bx s t + (if edW bx s t (min (ln (cb s)) k) = true then Wt n k ln bx s else 0) := by
  obtain ⟨-, h128, -, -⟩ := bs_6 n (by omega)
  unfold ptW
  rw [Nat.add_assoc]
  congr 1
  by_cases h : ∃ b, b < n ∧ t.testBit b = true ∧ t - 2 ^ b = s
  · obtain ⟨b, h1, h2, h3⟩ := h
    obtain ⟨a1, a2, a3, a4⟩ := bs_1 t (by omega) b (by omega) h2
    have hsb : s.testBit b = false := by rw [← h3, a4 b (by omega), if_pos rfl]
    have e1 := fb_sm_upd (fun b => if t.testBit b = true ∧ t - 2 ^ b < s then mtB ln bx k (cb t - 1) b * Wt n k ln bx (t - 2 ^ b) else 0) (mtB ln bx k (cb t - 1) b * Wt n k ln bx (t - 2 ^ b)) h1
    rw [if_neg (fun h => by omega), Nat.add_zero] at e1
    have e2 : fb_sm (fun b => if t.testBit b = true ∧ t - 2 ^ b < s + 1 then mtB ln bx k (cb t - 1) b * Wt n k ln bx (t - 2 ^ b) else 0) n = fb_sm (fun k_1 => if k_1 = b then mtB ln bx k (cb t - 1) b * Wt n k ln bx (t - 2 ^ b) else if t.testBit k_1 = true ∧ t - 2 ^ k_1 < s then mtB ln bx k (cb t - 1) k_1 * Wt n k ln bx (t - 2 ^ k_1) else 0) n := by
      refine fb_sm_cong (fun c hc => ?_)
      by_cases e : c = b
      · subst e
        rw [if_pos ⟨h2, by omega⟩, if_pos rfl]
      · rw [if_neg e]
        by_cases g : t.testBit c = true
        · obtain ⟨c1, c2, c3, c4⟩ := bs_1 t (by omega) c (by omega) g
          have hne : t - 2 ^ c ≠ s := fun q => e (bs_4 c (by omega) b (by omega) (by omega))
          by_cases g2 : t - 2 ^ c < s
          · rw [if_pos ⟨g, by omega⟩, if_pos ⟨g, g2⟩]
          · rw [if_neg (fun q => by omega), if_neg (fun q => g2 q.2)]
        · rw [if_neg (fun q => g q.1), if_neg (fun q => g q.1)]
    rw [e2, e1, h3]
    congr 1
    have hp : cb t - 1 = cb s := by rw [← h3]; omega
    rw [hp]
    have e3 : edW bx s t (min (ln (cb s)) k) = opB ln bx k b (cb s) := by
      unfold edW opB
      rw [Bool.eq_iff_iff, anB_iff, anB_iff]
      constructor
      · rintro ⟨i, hi, q⟩
        have q := of_decide_eq_true q
        exact ⟨i, hi, decide_eq_true (bs_4 _ (by have := hb i hi; omega) b (by omega) (by omega))⟩
      · rintro ⟨i, hi, q⟩
        have q := of_decide_eq_true q
        refine ⟨i, hi, decide_eq_true ?_⟩
        rw [q]
        exact ⟨hsb, by omega⟩
    rw [e3]
    unfold mtB
    cases opB ln bx k b (cb s)
    · rw [if_neg (by decide), if_neg (by decide), Nat.zero_mul]
    · rw [if_pos rfl, if_pos rfl, Nat.one_mul]
  · have e3 : edW bx s t (min (ln (cb s)) k) = false := by
      refine anB_no (fun i hi => decide_eq_false (fun q => h ⟨bx (cb s) i, hb i hi, ?_⟩))
      have hx := hb i hi
      have := bs_3 s (by omega) (bx (cb s) i) (by omega) q.1
      rw [q.2]
      exact ⟨this.1, by omega⟩
    rw [e3, if_neg (by decide), Nat.add_zero]
    refine fb_sm_cong (fun c hc => ?_)
    by_cases g : t.testBit c = true
    · have hne : t - 2 ^ c ≠ s := fun q => h ⟨c, hc, g, q⟩
      by_cases g2 : t - 2 ^ c < s
      · rw [if_pos ⟨g, by omega⟩, if_pos ⟨g, g2⟩]
      · rw [if_neg (fun q => by omega), if_neg (fun q => g2 q.2)]
    · rw [if_neg (fun q => g q.1), if_neg (fun q => g q.1)]
variable {l : Nat → Int32} {lb : Nat → Nat → Int32}
theorem l_next {s : Nat} {w : Nat → Int64} {Q : (Nat → Int64) → Prop} (hn : n ≤ 7) (hk : k ≤ n) (hcl : CL ln bx l lb) (hln : ∀ p, p < 18 → ln p ≤ n) (hbx : ∀ p i, p < 18 → i < ln p → bx p i < n) (hd : ∀ p i j, p < 18 → i < ln p → j < ln p → bx p i = bx p j → i = j) (hs : s < 2 ^ n) (hw : ∀ t, t < 2 ^ n → w t = lN (ptW n k ln bx s t)) (hQ : ∀ w' : Nat → Int64, (∀ t, t < 2 ^ n → w' t = lN (ptW n k ln bx (s + 1) t)) → Q w') : q0_placeNextThing l lb w (nI s) (nI (2 ^ n - 1)) (nI k) Q := by
  obtain ⟨-, h128, -, -⟩ := bs_6 n (by omega)
  have hp18 : cb s < 18 := by have := cb_le s; omega
  have hlp := hln (cb s) hp18
  unfold q0_placeNextThing
  refine bs_b (by omega) (l_firstOf hp18 (hcl.1 _ hp18) (by omega) (by omega) ?_)
  have hbr : ∀ i, i < min (ln (cb s)) k → bx (cb s) i < n := fun i hi => hbx _ i hp18 (by omega)
  refine lpI (fun k2 i w => q0_placeNextThing_18 l lb Q k2 (nI s) (nI (2 ^ n - 1)) (nI (cb s)) (nI (min (ln (cb s)) k)) (nI i) w) (fun i w => ∀ t, t < 2 ^ n → w t = lN (ptW n k ln bx s t + (if edW bx s t i = true then Wt n k ln bx s else 0))) 0 (min (ln (cb s)) k) w (Nat.zero_le _) (fun t ht => ?_) (fun k2 w hI => ?_) (fun k2 i w _ hi hI ih => ?_)
  · rw [hw t ht, show edW bx s t 0 = false from rfl, if_neg (by decide), Nat.add_zero]
  · unfold q0_placeNextThing_18
    refine pk_le (min (ln (cb s)) k) (min (ln (cb s)) k) (fun _ => hQ w (fun t ht => ?_)) (fun g => by omega)
    rw [hI t ht, ptW_s hn hs ht hbr]
  · unfold q0_placeNextThing_18
    have hx := hbr i hi
    rw [nI_clamp (n := i) (by omega), nI_clamp (n := cb s) (by omega), hcl.2 (cb s) i hp18 (by omega), bs_5 s (by omega) _ (by omega)]
    refine pk_le (min (ln (cb s)) k) i (fun g => by omega) (fun _ => ⟨pk_in (cb s) 18 hp18, pk_in i 18 (by omega), ?_⟩)
    by_cases g : s.testBit (bx (cb s) i) = true
    · rw [if_pos g]
      refine pk_le s s (fun _ => ?_) (fun g => by omega)
      unfold q0_placeNextThing_69
      rw [nI_1]
      refine ih w (fun t ht => ?_)
      rw [hI t ht]
      have : edW bx s t (i + 1) = edW bx s t i := by
        show (edW bx s t i || decide (s.testBit (bx (cb s) i) = false ∧ t = s + 2 ^ (bx (cb s) i))) = _
        rw [decide_eq_false (fun q => by rw [g] at q; exact absurd q.1 (by decide)), Bool.or_false]
      rw [this]
    · have g : s.testBit (bx (cb s) i) = false := by simpa using g
      obtain ⟨b1, b2⟩ := bs_3 s (by omega) _ (show bx (cb s) i < 7 by omega) g
      have b3 := bs_3b s (by omega) _ (show bx (cb s) i < 7 by omega) n (by omega) ⟨g, hs, hx⟩
      rw [if_neg (by rw [g]; decide)]
      refine pk_le (s + 2 ^ bx (cb s) i) s (fun g => by omega) (fun _ => pk_lt (2 ^ n - 1) (s + 2 ^ bx (cb s) i) (fun g => by omega) (fun _ => ⟨pk_in (s + 2 ^ bx (cb s) i) 128 (by omega), pk_in s 128 (by omega), pk_in (s + 2 ^ bx (cb s) i) 128 (by omega), ?_⟩))
      unfold q0_placeNextThing_69
      rw [nI_1, nI_clamp (n := s + 2 ^ bx (cb s) i) (by omega), nI_clamp (n := s) (by omega)]
      refine ih _ (fun t ht => ?_)
      have hes : ∀ t, edW bx s t (i + 1) = (edW bx s t i || decide (s.testBit (bx (cb s) i) = false ∧ t = s + 2 ^ (bx (cb s) i))) := fun t => rfl
      by_cases e : t = s + 2 ^ bx (cb s) i
      · subst e
        rw [pk_uLs, hI _ ht, hI s hs, hes, decide_eq_true ⟨g, rfl⟩, Bool.or_true, if_pos rfl]
        have z1 : edW bx s (s + 2 ^ bx (cb s) i) i = false := anB_no (fun j hj => decide_eq_false (fun q => by
          have hj2 := hbr j (by omega)
          have := hd (cb s) i j hp18 (by omega) (by omega) (bs_4 _ (by omega) _ (by omega) (by omega))
          omega))
        have z2 : edW bx s s i = false := anB_no (fun j hj => decide_eq_false (fun q => by
          have hj2 := hbr j (by omega)
          have := (bs_3 s (by omega) _ (show bx (cb s) j < 7 by omega) q.1).2
          omega))
        rw [z1, z2, if_neg (by decide), Nat.add_zero, Nat.add_zero, ptW_self hn hs, lN_add]
      · rw [pk_uLn e, hI t ht, hes, decide_eq_false (fun q => e q.2), Bool.or_false]
theorem l_won {w : Nat → Int64} {Q : Int64 → (Nat → Int64) → Prop} (h1n : 1 ≤ n) (hn : n ≤ 7) (hk : k ≤ n) (hcl : CL ln bx l lb) (hln : ∀ p, p < 18 → ln p ≤ n) (hbx : ∀ p i, p < 18 → i < ln p → bx p i < n) (hd : ∀ p i j, p < 18 → i < ln p → j < ln p → bx p i = bx p j → i = j) (hQ : ∀ w', Q (lN (permR (mtB ln bx k) (dnL n) (upL 0 n))) w') : q0_ordersWonByAll l lb w (nI n) (nI k) Q := by
  obtain ⟨h0, h128, hfull, hcb⟩ := bs_6 n (by omega)
  unfold q0_ordersWonByAll
  rw [full1 n (by omega)]
  refine pk_lt n 1 (fun g => by omega) (fun _ => pk_le n 7 (fun _ => ?_) (fun g => by omega))
  refine lpI (fun k2 i w => q0_ordersWonByAll_24 l lb Q k2 (nI k) (nI (2 ^ n - 1)) (nI i) w) (fun i w => ∀ t, t < i → w t = 0) 0 (2 ^ n) w (Nat.zero_le _) (fun t ht => by omega) (fun k2 w hI => ?_) (fun k2 i w _ hi hI ih => ?_)
  · unfold q0_ordersWonByAll_24
    refine pk_lt (2 ^ n - 1) (2 ^ n) (fun _ => ?_) (fun g => by omega)
    unfold q0_ordersWonByAll_44
    refine ⟨pk_in 0 128 (by decide), ?_⟩
    refine lpI (fun k2 s w => q0_ordersWonByAll_54 l lb Q k2 (nI k) (nI (2 ^ n - 1)) (nI s) w) (fun s w => ∀ t, t < 2 ^ n → w t = lN (ptW n k ln bx s t)) 0 (2 ^ n - 1) _ (Nat.zero_le _) (fun t ht => ?_) (fun k2 w hI => ?_) (fun k2 s w _ hi hI ih => ?_)
    · rw [ptW_0]
      by_cases e : t = 0
      · subst e; rw [if_pos rfl]; exact pk_uLs
      · rw [if_neg e]; exact (pk_uLn e).trans (hI t ht)
    · unfold q0_ordersWonByAll_54
      refine pk_le (2 ^ n - 1) (2 ^ n - 1) (fun _ => ?_) (fun g => by omega)
      unfold q0_ordersWonByAll_86
      rw [nI_clamp (by omega), hI _ (by omega), ptW_self hn (by omega)]
      refine ⟨pk_in (2 ^ n - 1) 128 (by omega), ?_⟩
      unfold Wt
      rw [hcb, elA_all n hfull]
      exact hQ w
    · unfold q0_ordersWonByAll_54
      rw [nI_clamp (by omega)]
      refine pk_le (2 ^ n - 1) s (fun g => by omega) (fun _ => ⟨pk_in s 128 (by omega), fun g => ?_, fun g => ?_⟩)
      · unfold q0_ordersWonByAll_80
        rw [nI_1]
        refine ih w (fun t ht => ?_)
        have hp18 : cb s < 18 := by have := cb_le s; omega
        rw [hI t ht, ptW_s hn (by omega) ht (fun i hi => hbx _ i hp18 (by omega)), ← lN_add]
        rw [hI s (by omega), ptW_self hn (by omega)] at g
        split
        · rw [g, Int64.add_zero]
        · exact (Int64.add_zero _).symm
      · refine l_next hn hk hcl hln hbx hd (by omega) hI (fun w' hw' => ?_)
        unfold q0_ordersWonByAll_80
        rw [nI_1]
        exact ih w' hw'
  · unfold q0_ordersWonByAll_24
    rw [nI_clamp (by omega), nI_1]
    refine pk_lt (2 ^ n - 1) i (fun g => by omega) (fun _ => ⟨pk_in i 128 (by omega), ih _ (fun t ht => ?_)⟩)
    by_cases e : t = i
    · subst e; exact pk_uLs
    · exact (pk_uLn e).trans (hI t (by omega))
end Won
