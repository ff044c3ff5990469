/-! the class Tables -/
def slot (r b v : Nat) : Nat := r * (r + 1) * (2 * r + 1) / 6 + b * (r + 1) + v
def sqs (r : Nat) : Nat := r * (r + 1) * (2 * r + 1) / 6
theorem sqs_s : ∀ r, r < 19 → sqs (r + 1) = sqs r + (r + 1) * (r + 1) := by decide +kernel
theorem sqs_m : ∀ r, r < 20 → ∀ q, q < r + 1 → sqs q ≤ sqs r := by decide +kernel
theorem slot_lt {r b v : Nat} (hr : r < 19) (hb : b ≤ r) (hv : v ≤ r) : slot r b v < sqs (r + 1) := by
  rw [sqs_s r hr]
  show sqs r + b * (r + 1) + v < _
  have : b * (r + 1) ≤ r * (r + 1) := Nat.mul_le_mul_right _ hb
  rw [Nat.succ_mul r (r + 1)]
  omega
theorem slot_2470 {r b v : Nat} (hr : r < 19) (hb : b ≤ r) (hv : v ≤ r) : slot r b v < 2470 := by
  have h1 := slot_lt hr hb hv
  have h2 := sqs_m 19 (by decide) (r + 1) (by omega)
  have : sqs 19 = 2470 := by decide +kernel
  omega
theorem slot_inj {r b v r' b' v' : Nat} (hr : r < 19) (hb : b ≤ r) (hv : v ≤ r) (hr' : r' < 19) (hb' : b' ≤ r') (hv' : v' ≤ r') (h : slot r b v = slot r' b' v') : r = r' ∧ b = b' ∧ v = v' := by
  have e : r = r' := by
    rcases Nat.lt_trichotomy r r' with g | g | g
    · have a := slot_lt hr hb hv
      have c := sqs_m r' (by omega) (r + 1) (by omega)
      have d : sqs r' ≤ slot r' b' v' := by show sqs r' ≤ sqs r' + _ + _; omega
      omega
    · exact g
    · have a := slot_lt hr' hb' hv'
      have c := sqs_m r (by omega) (r' + 1) (by omega)
      have d : sqs r ≤ slot r b v := by show sqs r ≤ sqs r + _ + _; omega
      omega
  subst e
  have h2 : b * (r + 1) + v = b' * (r + 1) + v' := by
    have : sqs r + b * (r + 1) + v = sqs r + b' * (r + 1) + v' := h
    omega
  have hbb : b = b' := by
    have e1 : (b * (r + 1) + v) / (r + 1) = b := by rw [Nat.mul_comm, Nat.mul_add_div (by omega), Nat.div_eq_of_lt (by omega)]; omega
    have e2 : (b' * (r + 1) + v') / (r + 1) = b' := by rw [Nat.mul_comm, Nat.mul_add_div (by omega), Nat.div_eq_of_lt (by omega)]; omega
    rw [← e1, ← e2, h2]
  subst hbb
  exact ⟨rfl, rfl, by omega⟩
theorem t_slot {r b v : Nat} {Q : Int32 → Prop} (hr : r < 19) (hb : b ≤ r) (hv : v ≤ r) (h : Q (nI (slot r b v))) : q3_riseSlot (nI r) (nI b) (nI v) Q := by
  unfold q3_riseSlot
  have h1 : r * (r + 1) * (2 * r + 1) ≤ 18 * 19 * 37 := Nat.mul_le_mul (Nat.mul_le_mul (by omega) (by omega)) (by omega)
  refine ⟨by decide, ?_⟩
  rw [nI_1, pk_mul, show (2 : Int32) = nI 2 from rfl, pk_mul 2 r, nI_1, pk_mul, show (6 : Int32) = nI 6 from rfl, pk_div (by omega) (by decide) (by decide), pk_mul, nI_add, nI_add]
  exact h
theorem t_entry {N v : Nat} {f : Nat → Int64} {Q : Int64 → Prop} (hN : N < 2 ^ 31) (hv : v < N) (h : Q (f v)) : q6_entry N f (nI v) Q := by
  unfold q6_entry
  refine pk_lt v 0 (fun h => by omega) (fun _ => pk_le N v (fun h => by omega) (fun _ => ⟨pk_in v N hv, ?_⟩))
  rw [nI_clamp (by omega)]
  exact h
theorem t_entryB {N : Nat} {v : Int32} {f : Nat → Int64} {Q : Int64 → Prop} (hv : v < 0 ∨ nI N ≤ v) (h : Q 0) : q6_entry N f v Q := by
  unfold q6_entry
  refine ⟨fun _ => h, fun g => ⟨fun _ => h, fun g2 => ?_⟩⟩
  rcases hv with hv | hv
  · exact absurd hv g
  · exact absurd hv g2
theorem lpI {σ : Type} (W : Nat → Nat → σ → Prop) (I : Nat → σ → Prop) (i0 e : Nat) (s : σ) (hi : i0 ≤ e) (h0 : I i0 s) (hx : ∀ k s, I e s → W (k + 1) e s) (hs : ∀ k i s, i0 ≤ i → i < e → I i s → (∀ s', I (i + 1) s' → W k (i + 1) s') → W (k + 1) i s) : ∃ k, W k i0 s := by
  suffices h : ∀ d i s, i + d = e → i0 ≤ i → I i s → W (d + 1) i s from ⟨_, h (e - i0) i0 s (by omega) (Nat.le_refl _) h0⟩
  intro d
  induction d with
  | zero => intro i s h1 h2 h3; have : i = e := by omega
            subst this; exact hx 0 s h3
  | succ d ih => intro i s h1 h2 h3; exact hs (d + 1) i s h2 (by omega) h3 (fun s' h' => ih (i + 1) s' (by omega) (by omega) h')
theorem t_fillFac {Q : (Nat → Int64) → Prop} (h : ∀ t : Nat → Int64, (∀ i, i < 19 → t i = lN (FAC i)) → Q t) {t0 : Nat → Int64} : q3_fillFactorials t0 Q := by
  unfold q3_fillFactorials
  refine ⟨pk_in 0 19 (by decide), ?_⟩
  refine lpI (fun k j (t : Nat → Int64) => q3_fillFactorials_9 Q k (nI j) t) (fun j t => ∀ i, i < j → t i = lN (FAC i)) 1 19 _ (by decide) (fun i hi => ?_) (fun k t hI => ?_) (fun k j t h1 hj hI ih => ?_)
  · have : i = 0 := by omega
    subst this; rfl
  · unfold q3_fillFactorials_9
    exact pk_lt 18 19 (fun _ => h t hI) (fun h => by omega)
  · unfold q3_fillFactorials_9
    have e1 : nI j - (1 : Int32) = nI (j - 1) := pk_sub (b := 1) (by omega)
    rw [e1, nI_clamp (by omega), nI_clamp (by omega), nI_l (by omega), nI_1]
    refine pk_lt 18 j (fun h => by omega) (fun _ => ⟨pk_in (j - 1) 19 (by omega), pk_in j 19 (by omega), ih _ (fun i hi => ?_)⟩)
    by_cases e : i = j
    · subst e
      rw [pk_uLs, hI (i - 1) (by omega), lN_mul]
      have := FAC_s (i - 1) (by omega)
      rw [show i - 1 + 1 = i by omega] at this
      rw [this]
    · rw [pk_uLn e]; exact hI i (by omega)
theorem t_fillDer {Q : (Nat → Int64) → Prop} (h : ∀ t : Nat → Int64, (∀ i, i < 19 → t i = lN (DER i)) → Q t) : q3_fillDeranged (fun _ => 0) Q := by
  unfold q3_fillDeranged
  refine ⟨pk_in 0 19 (by decide), ?_⟩
  refine lpI (fun k j (t : Nat → Int64) => q3_fillDeranged_9 Q k (nI j) t) (fun j t => ∀ i, i < j → t i = lN (DER i)) 2 19 _ (by decide) (fun i hi => ?_) (fun k t hI => ?_) (fun k j t h1 hj hI ih => ?_)
  · rcases (show i = 0 ∨ i = 1 by omega) with rfl | rfl <;> rfl
  · unfold q3_fillDeranged_9
    exact pk_lt 18 19 (fun _ => h t hI) (fun h => by omega)
  · unfold q3_fillDeranged_9
    have e1 : nI j - (1 : Int32) = nI (j - 1) := pk_sub (b := 1) (by omega)
    have e2 : nI j - (2 : Int32) = nI (j - 2) := pk_sub (b := 2) (by omega)
    rw [e1, e2, nI_clamp (by omega), nI_clamp (by omega), nI_clamp (by omega), nI_l (by omega), nI_1]
    refine pk_lt 18 j (fun h => by omega) (fun _ => ⟨pk_in (j - 1) 19 (by omega), pk_in (j - 2) 19 (by omega), pk_in j 19 (by omega), ih _ (fun i hi => ?_)⟩)
    by_cases e : i = j
    · subst e
      rw [pk_uLs, hI (i - 1) (by omega), hI (i - 2) (by omega), lN_add, lN_mul]
      have := DER_s (i - 2) (by omega)
      rw [show i - 2 + 2 = i by omega, show i - 2 + 1 = i - 1 by omega] at this
      rw [this]
    · rw [pk_uLn e]; exact hI i (by omega)
theorem up_s {α : Type} {f : Nat → α} {k : Nat} {x : α} : va_up f k x k = x := if_pos rfl
theorem up_n {α : Type} {f : Nat → α} {k j : Nat} {x : α} (h : j ≠ k) : va_up f k x j = f j := if_neg h
theorem t_fillRec {Q : (Nat → Nat → Int64) → Prop} (h : ∀ t : Nat → Nat → Int64, (∀ a b, a < 19 → b < 19 → t a b = lN (REC a b)) → Q t) : q3_fillRecords (fun _ _ => 0) Q := by
  unfold q3_fillRecords
  refine ⟨pk_in 0 19 (by decide), pk_in 0 19 (by decide), ?_⟩
  refine lpI (fun k j (t : Nat → Nat → Int64) => q3_fillRecords_11 Q k (nI j) t) (fun j t => (∀ a b, a < j → t a b = lN (REC a b)) ∧ (∀ a b, j ≤ a → t a b = 0)) 1 19 _ (by decide) ⟨fun a b ha => ?_, fun a b ha => ?_⟩ (fun k t hI => ?_) (fun k j t h1 hj hI ih => ?_)
  · have : a = 0 := by omega
    subst this
    rw [show (0 : Int32).toNatClampNeg = 0 from rfl, up_s]
    by_cases e : b = 0
    · subst e; rfl
    · rw [pk_uLn e, REC_z (by decide) (by omega)]; rfl
  · rw [show (0 : Int32).toNatClampNeg = 0 from rfl, up_n (by omega)]
  · unfold q3_fillRecords_11
    exact pk_lt 18 19 (fun _ => h t (fun a b ha _ => hI.1 a b ha)) (fun h => by omega)
  · unfold q3_fillRecords_11
    refine pk_lt 18 j (fun h => by omega) (fun _ => ?_)
    refine lpI (fun k2 v (t : Nat → Nat → Int64) => q3_fillRecords_19 (fun v0 v1 => q3_fillRecords_11 Q k v0 v1) Q k2 (nI j) (nI v) t) (fun v t => (∀ a b, a < j → t a b = lN (REC a b)) ∧ (∀ a b, j < a → t a b = 0) ∧ (∀ b, b < v → t j b = lN (REC j b)) ∧ (∀ b, v ≤ b → t j b = 0)) 1 (j + 1) t (by omega) ⟨hI.1, fun a b ha => hI.2 a b (by omega), fun b hb => ?_, fun b _ => hI.2 j b (Nat.le_refl _)⟩ (fun k2 t hI2 => ?_) (fun k2 v t h1v hv hI2 ih2 => ?_)
    · have : b = 0 := by omega
      subst this
      have := REC_0 (j - 1) (by omega)
      rw [show j - 1 + 1 = j by omega] at this
      rw [this, hI.2 j 0 (Nat.le_refl _)]; rfl
    · unfold q3_fillRecords_19
      refine pk_lt j (j + 1) (fun _ => ?_) (fun h => by omega)
      unfold q3_fillRecords_66
      rw [nI_1]
      obtain ⟨g1, g2, g3, g4⟩ := hI2
      refine ih t ⟨fun a b ha => ?_, fun a b ha => g2 a b (by omega)⟩
      by_cases e : a = j
      · subst e
        by_cases e2 : b < a + 1
        · exact g3 b e2
        · rw [g4 b (by omega), REC_z (by omega) (by omega)]; rfl
      · exact g1 a b (by omega)
    · unfold q3_fillRecords_19
      obtain ⟨g1, g2, g3, g4⟩ := hI2
      have e1 : nI j - (1 : Int32) = nI (j - 1) := pk_sub (b := 1) (by omega)
      have e2 : nI v - (1 : Int32) = nI (v - 1) := pk_sub (b := 1) (by omega)
      rw [e1, e2, nI_clamp (by omega), nI_clamp (by omega), nI_clamp (by omega), nI_clamp (by omega), nI_l (by omega), nI_1]
      refine pk_lt j v (fun h => by omega) (fun _ => ⟨pk_in j 19 (by omega), pk_in (j - 1) 19 (by omega), pk_in (v - 1) 19 (by omega), pk_in (j - 1) 19 (by omega), pk_in v 19 (by omega), pk_in v 19 (by omega), ih2 _ ⟨fun a b ha => ?_, fun a b ha => ?_, fun b hb => ?_, fun b hb => ?_⟩⟩)
      · rw [up_n (by omega)]; exact g1 a b ha
      · rw [up_n (by omega)]; exact g2 a b ha
      · rw [up_s]
        by_cases e : b = v
        · subst e
          rw [pk_uLs, g1 _ _ (by omega), g1 _ _ (by omega), lN_mul, lN_add]
          have := REC_s (j - 1) (by omega) (b - 1) (by omega)
          rw [show j - 1 + 1 = j by omega, show b - 1 + 1 = b by omega] at this
          rw [this]
        · rw [pk_uLn e]; exact g3 b (by omega)
      · rw [up_s, pk_uLn (by omega)]; exact g4 b (by omega)
theorem t_sum {m n : Nat} {t : Nat → Nat → Int64} {Q : Int64 → Prop} (hm : m < 19) (hn : n < 18) (ht : ∀ b, b < n + 1 → t m b = lN (RUT m b)) (h : Q (lN (RUT m (n + 1)))) : q3_sumByRoundOfLast t (nI m) (nI (n + 1)) Q := by
  unfold q3_sumByRoundOfLast
  rw [RUT_s m hm n hn] at h
  refine up5 (q3_sumByRoundOfLast_8 t Q) (fun _ => nI m) (fun _ => nI (n + 1)) (fun l => lN (rlS m (n + 1) l).1) (fun l => lN (rlS m (n + 1) l).2) (fun l => nI (l + 1)) 0 (min (n + 1) m) (Nat.zero_le _) (fun k => ?_) (fun k l _ hl ih => ?_) rfl rfl rfl rfl rfl
  · unfold q3_sumByRoundOfLast_8
    refine pk_lt (n + 1) (min (n + 1) m + 1) (fun _ => h) (fun g => pk_lt m (min (n + 1) m + 1) (fun _ => h) (fun g2 => by omega))
  · unfold q3_sumByRoundOfLast_8
    have e1 : nI (n + 1) - nI (l + 1) = nI (n + 1 - (l + 1)) := pk_sub (by omega)
    rw [e1, nI_clamp (by omega), nI_clamp (by omega), nI_l (by omega), ht _ (by omega), lN_mul, lN_mul, lN_add, nI_1]
    exact pk_lt (n + 1) (l + 1) (fun _ => by omega) (fun _ => pk_lt m (l + 1) (fun _ => by omega) (fun _ => ⟨pk_in m 19 (by omega), pk_in (n + 1 - (l + 1)) 19 (by omega), ih⟩))
theorem t_fillRut {Q : (Nat → Nat → Int64) → Prop} (h : ∀ t : Nat → Nat → Int64, (∀ a b, a < 19 → b < 19 → t a b = lN (RUT a b)) → Q t) {t0 : Nat → Nat → Int64} : q3_fillRoundsUpTo t0 Q := by
  unfold q3_fillRoundsUpTo
  refine lpI (fun k j (t : Nat → Nat → Int64) => q3_fillRoundsUpTo_2 Q k (nI j) t) (fun j t => ∀ a b, a < j → b < 19 → t a b = lN (RUT a b)) 0 19 _ (by decide) (fun a b ha => by omega) (fun k t hI => ?_) (fun k j t _ hj hI ih => ?_)
  · unfold q3_fillRoundsUpTo_2
    exact pk_lt 18 19 (fun _ => h t hI) (fun h => by omega)
  · unfold q3_fillRoundsUpTo_2
    refine pk_lt 18 j (fun h => by omega) (fun _ => ⟨pk_in j 19 (by omega), pk_in 0 19 (by decide), ?_⟩)
    refine lpI (fun k2 v (t : Nat → Nat → Int64) => q3_fillRoundsUpTo_19 (fun v0 v1 => q3_fillRoundsUpTo_2 Q k v0 v1) Q k2 (nI j) (nI v) t) (fun v t => (∀ a b, a < j → b < 19 → t a b = lN (RUT a b)) ∧ (∀ b, b < v → t j b = lN (RUT j b))) 1 19 _ (by omega) ⟨fun a b ha hb => ?_, fun b hb => ?_⟩ (fun k2 t hI2 => ?_) (fun k2 v t h1v hv hI2 ih2 => ?_)
    · rw [nI_clamp (by omega), up_n (by omega)]; exact hI a b ha hb
    · have : b = 0 := by omega
      subst this
      rw [nI_clamp (by omega), up_s, RUT_0 j hj]; rfl
    · unfold q3_fillRoundsUpTo_19
      refine pk_lt 18 19 (fun _ => ?_) (fun h => by omega)
      unfold q3_fillRoundsUpTo_45
      rw [nI_1]
      refine ih t (fun a b ha hb => ?_)
      by_cases e : a = j
      · subst e; exact hI2.2 b hb
      · exact hI2.1 a b (by omega) hb
    · unfold q3_fillRoundsUpTo_19
      refine pk_lt 18 v (fun h => by omega) (fun _ => ⟨pk_in j 19 (by omega), ?_⟩)
      obtain ⟨w, rfl⟩ : ∃ w, v = w + 1 := ⟨v - 1, by omega⟩
      refine t_sum hj (by omega) (fun b hb => hI2.2 b hb) ⟨pk_in (w + 1) 19 (by omega), ?_⟩
      rw [nI_1, nI_clamp (by omega), nI_clamp (by omega)]
      refine ih2 _ ⟨fun a b ha hb => ?_, fun b hb => ?_⟩
      · rw [up_n (by omega)]; exact hI2.1 a b ha hb
      · rw [up_s]
        by_cases e : b = w + 1
        · subst e; exact pk_uLs
        · rw [pk_uLn e]; exact hI2.2 b (by omega)
