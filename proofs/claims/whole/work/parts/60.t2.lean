/-! the class Tables: rises, and what the tables are asked -/
theorem RIS_d : ∀ r, r < 18 → ∀ b, b < r + 1 → ∀ v, v < r + 2 → RIS (r + 1) (b + 1) v + (if v = 0 then 0 else RIS r b (v - 1)) = RIS (r + 1) b v + RIS r b v := by decide +kernel
def riO (t : Nat → Int64) (r : Nat) : Prop := ∀ b v, b ≤ r → v ≤ r → t (slot r b v) = lN (RIS r b v)
theorem t_rises {r b v : Nat} {t : Nat → Int64} {Q : Int64 → Prop} (hr : r < 19) (hb2 : b < 2 ^ 31) (hv2 : v < 2 ^ 31) (ht : riO t r) (h : Q (lN (RIS r b v))) : q3_withRises t (nI r) (nI b) (nI v) Q := by
  unfold q3_withRises
  refine pk_lt r 0 (fun h => by omega) (fun _ => pk_lt 18 r (fun h => by omega) (fun _ => pk_lt b 0 (fun h => by omega) (fun _ => pk_lt r b (fun g => ?_) (fun gb => pk_lt v 0 (fun h => by omega) (fun _ => pk_le v r (fun gv => ?_) (fun g => ?_))))))
  · rw [RIS_z hr (Or.inl g)] at h; exact h
  · refine t_slot hr gb gv (t_entry (by decide) (slot_2470 hr gb gv) ?_)
    rw [ht b v gb gv]; exact h
  · rw [RIS_z hr (Or.inr g)] at h; exact h
theorem t_risesN {r b : Nat} {v : Int32} {t : Nat → Int64} {Q : Int64 → Prop} (hv : v < 0) (h : Q 0) : q3_withRises t (nI r) (nI b) v Q := by
  unfold q3_withRises
  exact ⟨fun _ => h, fun _ => ⟨fun _ => h, fun _ => ⟨fun _ => h, fun _ => ⟨fun _ => h, fun _ => ⟨fun _ => h, fun g => absurd hv g⟩⟩⟩⟩⟩
theorem t_risesP {r b v : Nat} {t : Nat → Int64} {Q : Int64 → Prop} (hr : r < 19) (hb2 : b < 2 ^ 31) (hv2 : v < 2 ^ 30) (ht : riO t r) (h : Q (lN (if v = 0 then 0 else RIS r b (v - 1)))) : q3_withRises t (nI r) (nI b) (nI v - (1 : Int32)) Q := by
  by_cases e : v = 0
  · subst e
    exact t_risesN (by decide) h
  · rw [show nI v - (1 : Int32) = nI (v - 1) from pk_sub (b := 1) (by omega)]
    rw [if_neg e] at h
    exact t_rises hr hb2 (by omega) ht h
theorem lN_d {a b x y : Nat} (h : b + y = a + x) : lN a + (lN x - lN y) = lN b := by
  have e : lN b + lN y = lN a + lN x := by rw [lN_add, lN_add, h]
  rw [Int64.sub_eq_add_neg, ← Int64.add_assoc, ← e, ← Int64.sub_eq_add_neg, Int64.add_sub_cancel]
theorem t_fillBelow {r v : Nat} {t : Nat → Int64} {Q : (Nat → Int64) → Prop} (hr : r < 18) (hv : v ≤ r + 1) (ht : ∀ q, q < r + 1 → riO t q) (h : ∀ t' : Nat → Int64, (∀ b, b ≤ r + 1 → t' (slot (r + 1) b v) = lN (RIS (r + 1) b v)) → (∀ i, (∀ b, b ≤ r + 1 → i ≠ slot (r + 1) b v) → t' i = t i) → Q t') : q3_fillRisesByBelow t (nI (r + 1)) (nI v) Q := by
  unfold q3_fillRisesByBelow
  have e1 : nI (r + 1) - (1 : Int32) = nI r := nI_pred r
  refine up5 (q3_fillRisesByBelow_5 Q) (fun _ => nI (r + 1)) (fun _ => nI v) (fun j => lN (riS r 0 v j)) (fun j => nI j) (fun _ => t) 0 (r + 1) (Nat.zero_le _) (fun k => ?_) (fun k j _ hj ih => ?_) rfl rfl rfl rfl rfl
  · unfold q3_fillRisesByBelow_5
    refine pk_le (r + 1) (r + 1) (fun _ => ?_) (fun h => by omega)
    unfold q3_fillRisesByBelow_32
    refine t_slot (b := 0) (by omega) (by omega) hv ⟨pk_in (slot (r + 1) 0 v) 2470 (slot_2470 (by omega) (by omega) hv), ?_⟩
    rw [nI_clamp (by have := slot_2470 (r := r + 1) (b := 0) (v := v) (by omega) (by omega) hv; omega), ← RIS_s r hr 0 (by omega) v (by omega)]
    refine lpI (fun k2 b (s : Int64 × (Nat → Int64)) => q3_fillRisesByBelow_47 Q k2 (nI (r + 1)) (nI v) s.1 (nI b) s.2) (fun b s => s.1 = lN (RIS (r + 1) (b - 1) v) ∧ (∀ c, c < b → s.2 (slot (r + 1) c v) = lN (RIS (r + 1) c v)) ∧ (∀ i, (∀ c, c ≤ r + 1 → i ≠ slot (r + 1) c v) → s.2 i = t i)) 1 (r + 2) (lN (RIS (r + 1) 0 v), vp_updL t (slot (r + 1) 0 v) (lN (RIS (r + 1) 0 v))) (by omega) ⟨rfl, fun c hc => ?_, fun i hi => ?_⟩ (fun k2 s hI => ?_) (fun k2 b s h1b hb hI ih => ?_)
    · have : c = 0 := by omega
      subst this; exact pk_uLs
    · exact pk_uLn (hi 0 (by omega))
    · unfold q3_fillRisesByBelow_47
      exact pk_lt (r + 1) (r + 2) (fun _ => h s.2 (fun b hb => hI.2.1 b (by omega)) hI.2.2) (fun h => by omega)
    · unfold q3_fillRisesByBelow_47
      obtain ⟨g1, g2, g3⟩ := hI
      have hro : riO s.2 r := fun b' v' hb' hv' => by
        rw [g3 _ (fun c hc e => by have := (slot_inj (by omega) hb' hv' (by omega) hc hv e).1; omega)]
        exact ht r (by omega) b' v' hb' hv'
      have e2 : nI b - (1 : Int32) = nI (b - 1) := pk_sub (b := 1) (by omega)
      rw [e1, e2, g1]
      refine pk_lt (r + 1) b (fun h => by omega) (fun _ => ?_)
      refine t_rises (by omega) (by omega) (by omega) hro ?_
      refine t_risesP (by omega) (by omega) (by omega) hro ?_
      refine t_slot (by omega) (by omega) hv ⟨pk_in (slot (r + 1) b v) 2470 (slot_2470 (by omega) (by omega) hv), ?_⟩
      have hd := RIS_d r hr (b - 1) (by omega) v (by omega)
      rw [show b - 1 + 1 = b by omega] at hd
      rw [nI_clamp (by have := slot_2470 (r := r + 1) (b := b) (v := v) (by omega) (by omega) hv; omega), lN_d hd, nI_1]
      refine ih (lN (RIS (r + 1) b v), vp_updL s.2 (slot (r + 1) b v) (lN (RIS (r + 1) b v))) ⟨by rw [Nat.add_sub_cancel], fun c hc => ?_, fun i hi => ?_⟩
      · by_cases e : c = b
        · subst e; exact pk_uLs
        · refine (pk_uLn (fun e3 => e (slot_inj (by omega) (by omega) hv (by omega) (by omega) hv e3).2.1)).trans (g2 c (by omega))
      · exact (pk_uLn (hi b (by omega))).trans (g3 i hi)
  · unfold q3_fillRisesByBelow_5
    rw [e1]
    refine pk_le (r + 1) j (fun h => by omega) (fun _ => ?_)
    refine t_risesP (by omega) (by omega) (by omega) (ht r (by omega)) ?_
    rw [lN_add, nI_1]
    have e3 : riS r 0 v (j + 1) = riS r 0 v j + (if v = 0 then 0 else RIS r j (v - 1)) := by
      show _ + (if 0 ≤ j then _ else _) = _
      rw [if_pos (Nat.zero_le j)]
    rw [e3] at ih
    exact ih
theorem t_fillRis {Q : (Nat → Int64) → Prop} (h : ∀ t : Nat → Int64, (∀ r, r < 19 → riO t r) → Q t) {t0 : Nat → Int64} : q3_fillRises t0 Q := by
  unfold q3_fillRises
  refine ⟨pk_in 0 2470 (by decide), ?_⟩
  refine lpI (fun k j (t : Nat → Int64) => q3_fillRises_9 Q k (nI j) t) (fun j t => ∀ r, r < j → riO t r) 1 19 _ (by decide) (fun r hr b v hb hv => ?_) (fun k t hI => ?_) (fun k j t h1 hj hI ih => ?_)
  · have e1 : r = 0 := by omega
    subst e1
    have e2 : b = 0 := by omega
    have e3 : v = 0 := by omega
    subst e2 e3
    rw [RIS_0]; rfl
  · unfold q3_fillRises_9
    exact pk_lt 18 19 (fun _ => h t hI) (fun h => by omega)
  · unfold q3_fillRises_9
    refine pk_lt 18 j (fun h => by omega) (fun _ => ?_)
    obtain ⟨r, rfl⟩ : ∃ r, j = r + 1 := ⟨j - 1, by omega⟩
    refine lpI (fun k2 v (t : Nat → Int64) => q3_fillRises_17 (fun v0 v1 => q3_fillRises_9 Q k v0 v1) Q k2 (nI (r + 1)) (nI v) t) (fun v t => (∀ q, q < r + 1 → riO t q) ∧ (∀ b w, b ≤ r + 1 → w < v → t (slot (r + 1) b w) = lN (RIS (r + 1) b w))) 0 (r + 2) t (by omega) ⟨hI, fun b w _ hw => by omega⟩ (fun k2 t hI2 => ?_) (fun k2 v t _ hv hI2 ih2 => ?_)
    · unfold q3_fillRises_17
      refine pk_lt (r + 1) (r + 2) (fun _ => ?_) (fun h => by omega)
      unfold q3_fillRises_34
      rw [nI_1]
      refine ih t (fun q hq => ?_)
      by_cases e : q = r + 1
      · subst e; exact fun b v hb hv => hI2.2 b v hb (by omega)
      · exact hI2.1 q (by omega)
    · unfold q3_fillRises_17
      refine pk_lt (r + 1) v (fun h => by omega) (fun _ => ?_)
      refine t_fillBelow (by omega) (by omega) hI2.1 (fun t' g1 g2 => ?_)
      rw [nI_1]
      refine ih2 t' ⟨fun q hq b w hb hw => ?_, fun b w hb hw => ?_⟩
      · rw [g2 _ (fun c hc e => by have := (slot_inj (by omega) hb hw (by omega) hc (by omega) e).1; omega)]
        exact hI2.1 q hq b w hb hw
      · by_cases e : w = v
        · subst e; exact g1 b hb
        · rw [g2 _ (fun c hc e3 => e (slot_inj (by omega) hb (by omega) (by omega) hc (by omega) e3).2.2)]
          exact hI2.2 b w hb (by omega)
def TabOK (t_fac t_der : Nat → Int64) (t_rec t_rut : Nat → Nat → Int64) (t_ris : Nat → Int64) : Prop := (∀ i, i < 19 → t_fac i = lN (FAC i)) ∧ (∀ i, i < 19 → t_der i = lN (DER i)) ∧ (∀ a b, a < 19 → b < 19 → t_rec a b = lN (REC a b)) ∧ (∀ a b, a < 19 → b < 19 → t_rut a b = lN (RUT a b)) ∧ (∀ r, r < 19 → riO t_ris r)
theorem t_init {Q : (Nat → Int64) → (Nat → Int64) → (Nat → Nat → Int64) → (Nat → Nat → Int64) → (Nat → Int64) → Prop} (h : ∀ a b c d e, TabOK a b c d e → Q a b c d e) : q3_init Q := by
  unfold q3_init
  exact t_fillFac (fun a ha => t_fillDer (fun b hb => t_fillRec (fun c hc => t_fillRut (fun d hd => t_fillRis (fun e he => h a b c d e ⟨ha, hb, hc, hd, he⟩)))))
/-! the answers of the tables -/
theorem t_ordersOf {n : Nat} {t : Nat → Int64} {Q : Int64 → Prop} (ht : ∀ i, i < 19 → t i = lN (FAC i)) (hn : n < 19) (h : Q (lN (FAC n))) : q3_ordersOf t (nI n) Q := by
  unfold q3_ordersOf
  refine t_entry (by decide) hn ?_
  rw [ht n hn]; exact h
theorem t_upTo {m n : Nat} {t : Nat → Nat → Int64} {Q : Int64 → Prop} (ht : ∀ a b, a < 19 → b < 19 → t a b = lN (RUT a b)) (hm : m < 19) (hn : n < 19) (h : Q (lN (RUT m n))) : q3_withRoundsUpTo t (nI m) (nI n) Q := by
  unfold q3_withRoundsUpTo
  refine pk_lt m 0 (fun h => by omega) (fun _ => pk_lt 18 m (fun h => by omega) (fun _ => ⟨pk_in m 19 hm, t_entry (by decide) hn ?_⟩))
  rw [nI_clamp (by omega), ht m n hm hn]; exact h
def rcS (a v : Nat) : Nat → Nat
  | 0 => REC a v
  | k + 1 => rcS a v k * (a + (k + 1))
/-- ways to end a row with v more records, of r things a of them above -/
def RW1 (r a v : Nat) : Nat := if a ≤ r then rcS a v (r - a) else 0
theorem rcS_z {a v : Nat} (h : REC a v = 0) : ∀ k, rcS a v k = 0
  | 0 => h
  | k + 1 => by show rcS a v k * _ = 0; rw [rcS_z h k, Nat.zero_mul]
theorem t_recs {r a v : Nat} {t : Nat → Nat → Int64} {Q : Int64 → Prop} (ht : ∀ a b, a < 19 → b < 19 → t a b = lN (REC a b)) (hr : r < 19) (ha : a < 2 ^ 31) (hv : v < 2 ^ 31) (h : Q (lN (RW1 r a v))) : q3_withRecords t (nI r) (nI a) (nI v) Q := by
  unfold q3_withRecords
  refine pk_lt a 0 (fun h => by omega) (fun _ => pk_lt r a (fun g => ?_) (fun g => pk_le r 18 (fun _ => ⟨pk_in a 19 (by omega), ?_⟩) (fun h => by omega)))
  · rw [show RW1 r a v = 0 from if_neg (by omega)] at h; exact h
  · rw [show RW1 r a v = rcS a v (r - a) from if_pos g] at h
    have key : ∃ k, q3_withRecords_34 t Q k (nI r) (lN (REC a v)) (nI a + (1 : Int32)) := by
      refine up3 (q3_withRecords_34 t Q) (fun _ => nI r) (fun k => lN (rcS a v k)) (fun k => nI (a + (k + 1))) 0 (r - a) (Nat.zero_le _) (fun k => ?_) (fun k j _ hj ih => ?_) rfl rfl (nI_1 a)
      · unfold q3_withRecords_34
        exact pk_lt r (a + (r - a + 1)) (fun _ => h) (fun h => by omega)
      · unfold q3_withRecords_34
        rw [nI_l (by omega), lN_mul, nI_1]
        exact pk_lt r (a + (j + 1)) (fun h => by omega) (fun _ => ih)
    by_cases hv9 : v < 19
    · refine t_entry (by decide) hv9 ?_
      rw [nI_clamp (by omega), ht a v (by omega) hv9]
      exact key
    · refine t_entryB (Or.inr (nI_le (by omega) hv)) ?_
      rw [REC_z (by omega) (by omega)] at key
      exact key
theorem t_recsN {r a : Nat} {v : Int32} {t : Nat → Nat → Int64} {Q : Int64 → Prop} (hr : r < 19) (ha : a ≤ r) (hv : v < 0) (h : Q 0) : q3_withRecords t (nI r) (nI a) v Q := by
  unfold q3_withRecords
  refine pk_lt a 0 (fun h => by omega) (fun _ => pk_lt r a (fun g => by omega) (fun g => pk_le r 18 (fun _ => ⟨pk_in a 19 (by omega), ?_⟩) (fun h => by omega)))
  refine t_entryB (Or.inl hv) ?_
  refine up3 (q3_withRecords_34 t Q) (fun _ => nI r) (fun k => (0 : Int64)) (fun k => nI (a + (k + 1))) 0 (r - a) (Nat.zero_le _) (fun k => ?_) (fun k j _ hj ih => ?_) rfl rfl (nI_1 a)
  · unfold q3_withRecords_34
    exact pk_lt r (a + (r - a + 1)) (fun _ => h) (fun h => by omega)
  · unfold q3_withRecords_34
    rw [Int64.zero_mul, nI_1]
    exact pk_lt r (a + (j + 1)) (fun h => by omega) (fun _ => ih)
/-- so many orders with so many at rest, as it is gone through -/
def stS (n v : Nat) : Nat → Nat
  | 0 => DER (n - v)
  | i + 1 => stS n v i * (n - v + (i + 1)) / (i + 1)
def STL (n v : Nat) : Nat := if v ≤ n then stS n v v else 0
theorem stS_lt : ∀ n, n < 19 → ∀ v, v < n + 1 → ∀ i, i < v + 1 → stS n v i * (n - v + (i + 1)) < 2 ^ 63 := by decide +kernel
theorem t_still {n v : Nat} {t : Nat → Int64} {Q : Int64 → Prop} (ht : ∀ i, i < 19 → t i = lN (DER i)) (hn : n < 19) (hv : v < 2 ^ 31) (h : Q (lN (STL n v))) : q3_withStill t (nI n) (nI v) Q := by
  unfold q3_withStill
  refine pk_lt v 0 (fun h => by omega) (fun _ => pk_le v n (fun g => ?_) (fun g => ?_))
  · rw [show STL n v = stS n v v from if_pos g] at h
    have e1 : nI n - nI v = nI (n - v) := pk_sub g
    rw [e1]
    refine t_entry (by decide) (by omega) ?_
    rw [ht _ (by omega)]
    refine up4 (q3_withStill_25 t Q) (fun _ => nI n) (fun _ => nI v) (fun i => lN (stS n v i)) (fun i => nI (i + 1)) 0 v (Nat.zero_le _) (fun k => ?_) (fun k i _ hi ih => ?_) rfl rfl rfl rfl
    · unfold q3_withStill_25
      exact pk_lt v (v + 1) (fun _ => h) (fun h => by omega)
    · unfold q3_withStill_25
      have hb := stS_lt n hn v (by omega) i (by omega)
      rw [e1, nI_add, nI_l (by omega), nI_l (by omega), lN_mul, pk_lDiv hb (by omega) (by omega), nI_1]
      exact pk_lt v (i + 1) (fun h => by omega) (fun _ => ⟨fun e => by have := (pk_lEQ (b := 0) (by omega) (by decide)).mp e; omega, ih⟩)
  · rw [show STL n v = 0 from if_neg (by omega)] at h; exact h
