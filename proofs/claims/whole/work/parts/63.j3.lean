/-! a new number of things -/
theorem c_startWith {a : Nat} {u v : Int32} {s0 s1 s2 s3 l c : Nat → Int32} {z0 z1 z2 z3 cz : Int32} {Q : Int32 → Int32 → (Nat → Int32) → Int32 → (Nat → Int32) → Int32 → (Nat → Int32) → Int32 → (Nat → Int32) → Int32 → (Nat → Int32) → (Nat → Int32) → Int32 → Prop} (ha : a ≤ 18) (h : Q (nI a) (nI (min 2 a)) (fa_fill (fun j => nI j) s0 a) (nI a) (fa_fill (fun j => nI j) s1 a) (nI a) (fa_fill (fun j => nI j) s2 a) (nI a) (fa_fill (fun j => nI j) s3 a) (nI a) (fa_fill (fun _ => 0) l 18) (fa_fill (fun j => nI j) c a) (nI a)) : q6_startWith u v s0 z0 s1 z1 s2 z2 s3 z3 l c cz (nI a) Q := by
  unfold q6_startWith
  refine o_startWith ha ?_
  rw [show (2 : Int32) = nI 2 from rfl, nI_min (by decide) (by omega)]
  refine ⟨5, ?_⟩
  unfold q6_startWith_24
  refine pk_le 4 0 (fun h => by omega) (fun _ => ⟨pk_in 0 4 (by decide), ⟨fun _ => o_startWith ha ?_, fun e => absurd e (by decide), fun e => absurd e (by decide), fun e => absurd e (by decide)⟩⟩)
  unfold q6_startWith_24
  refine pk_le 4 1 (fun h => by omega) (fun _ => ⟨pk_in 1 4 (by decide), ⟨fun e => absurd e (by decide), fun _ => o_startWith ha ?_, fun e => absurd e (by decide), fun e => absurd e (by decide)⟩⟩)
  unfold q6_startWith_24
  refine pk_le 4 2 (fun h => by omega) (fun _ => ⟨pk_in 2 4 (by decide), ⟨fun e => absurd e (by decide), fun e => absurd e (by decide), fun _ => o_startWith ha ?_, fun e => absurd e (by decide)⟩⟩)
  unfold q6_startWith_24
  refine pk_le 4 3 (fun h => by omega) (fun _ => ⟨pk_in 3 4 (by decide), ⟨fun e => absurd e (by decide), fun e => absurd e (by decide), fun e => absurd e (by decide), fun _ => o_startWith ha ?_⟩⟩)
  unfold q6_startWith_24
  refine pk_le 4 4 (fun _ => ?_) (fun h => by omega)
  unfold q6_startWith_45
  exact l_emptyAll h
theorem id_Pm (n : Nat) : Pm n (fun j => j) := ⟨fun _ h => h, fun _ _ _ _ e => e⟩
theorem Inv.new {a : Nat} (h1 : 1 ≤ a) (ha : a ≤ 18) : Inv a (min 2 a) (fun j => j) (fun _ j => j) (fun _ => 0) (fun _ _ => 0) := ⟨h1, ha, ⟨by omega, by omega⟩, id_Pm a, fun _ _ => id_Pm a, fun _ _ => Nat.zero_le _, fun _ _ _ => rfl, fun _ i _ h => absurd h (Nat.not_lt_zero i), fun _ i _ _ h => absurd h (Nat.not_lt_zero i)⟩
theorem new_CL {l : Nat → Int32} {b : Nat → Nat → Int32} : CL (fun _ => 0) (fun _ _ => 0) (fa_fill (fun _ => 0) l 18) b := ⟨fun p hp => by rw [fa_fill_in hp]; rfl, fun _ i _ h => absurd h (Nat.not_lt_zero i)⟩
theorem new_ML {l b : Nat → Int32} : ML (fun _ => 0) (fun _ _ => 0) (fa_fill (fun _ => 0) l 18) b := ⟨fun p hp => by rw [fa_fill_in hp]; rfl, fun _ i _ h => absurd h (Nat.not_lt_zero i)⟩
theorem new_Rw {a b : Nat} {r : Nat → Int32} (h : a ≤ b) : Rw a (fa_fill (fun j => nI j) r b) (fun j => j) := fun j hj => by rw [fa_fill_in (by omega)]
theorem new_MS {a : Nat} {s : Nat → Int32} (ha : a ≤ 18) : MS a (fun _ j => j) (shB s 18 4) := fun q j hq hj => by
  obtain ⟨h1, h2⟩ := shB_at s 18 4 (by decide) (by decide)
  by_cases e : j + 1 = 18
  · exact h2 q hq j e
  · exact h1 j q (by omega) hq

theorem js_things {G : Nat → Nat → (Nat → Int64) → Prop} : JS_things HJ G := by
  intro h_size h_opened h_tal s0_row s0_made s0_size s1_row s1_made s1_size s2_row s2_made s2_size s3_row s3_made s3_size l_len l_ways l_box w_used w_kind w_size w_left w_last w_top w_wanted c_row c_made c_size t_fac t_der t_rec t_rut t_ris m_n m_order m_shelf m_opens m_lists m_listed m_work m_counts m_older m_products m_part m_parts m_ways m_used m_greaterNow m_countNow a1 hJ
  obtain ⟨n, k, σ, τ, ln, bx, hI, ⟨rfl, rfl, rfl, rfl, rfl, rfl, rfl⟩, hc, hcs, hcl, ht, ⟨rfl, rfl⟩, hmo, hms, hml⟩ := hJ
  have hn := hI.2.1
  have h1n := hI.1
  unfold q6_things
  have hbad : ∀ g : a1 < (1 : Int32) ∨ (18 : Int32) < a1, q7_things (nI n) m_order m_shelf (nI k) m_listed a1 (fun r2 m_n_2 m_order_2 m_shelf_2 m_opens_2 m_listed_2 => (-2 : Int32) = r2 ∧ JX (nI n) (nI k) (nI n) (nI n) (nI n) (nI n) (nI n) c_row s0_row s1_row s2_row s3_row l_len l_box t_fac t_der t_rec t_rut t_ris m_n_2 m_opens_2 m_order_2 m_shelf_2 m_lists m_listed_2) := fun g => by
    unfold q7_things
    exact m_in (lo := 1) (hi := 18) (fun g1 g2 => by
      rcases g with g | g
      · exact absurd g1 (fa_of_lt g).2.1
      · exact absurd g2 (fa_of_lt g).2.1) (fun _ => y0 ⟨rfl, n, k, σ, τ, ln, bx, hI, ⟨rfl, rfl, rfl, rfl, rfl, rfl, rfl⟩, hc, hcs, hcl, ht, ⟨rfl, rfl⟩, hmo, hms, hml⟩)
  refine ⟨fun g => hbad (Or.inl g), fun g1 => ⟨fun g2 => ?_, fun g2 => hbad (Or.inr (fa_of_nle g2))⟩⟩
  obtain ⟨a, ha, rfl⟩ := nI_of2 (M := 18) (n := 18) (by decide) (fun g => g1 (by rw [Int32.lt_iff_toInt_lt] at g ⊢; have h0 : (0 : Int32).toInt = 0 := rfl; have h1 : (1 : Int32).toInt = 1 := rfl; omega)) g2
  have h1 : 1 ≤ a := by
    rcases Nat.eq_zero_or_pos a with e | e
    · subst e; exact absurd (by decide) g1
    · exact e
  refine c_startWith ha ?_
  unfold q7_things
  exact m_in (lo := 1) (hi := 18) (fun _ _ => y1 (m_begin ha ⟨rfl, a, min 2 a, fun j => j, fun _ j => j, fun _ => 0, fun _ _ => 0, Inv.new h1 ha, ⟨rfl, rfl, rfl, rfl, rfl, rfl, rfl⟩, new_Rw (Nat.le_refl _), ⟨new_Rw (Nat.le_refl _), new_Rw (Nat.le_refl _), new_Rw (Nat.le_refl _), new_Rw (Nat.le_refl _)⟩, new_CL, ht, ⟨rfl, rfl⟩, new_Rw ha, new_MS ha, new_ML⟩ h1)) (fun g => by
    rcases g with g | g
    · exact absurd g g1
    · exact absurd g2 (fa_of_lt g).2.1)
theorem ji_all : q6_init (fun t_fac t_der t_rec t_rut t_ris h_size h_opened s0_row s0_size s1_row s1_size s2_row s2_size s3_row s3_size l_len c_row c_size => q7_begin 4 (fun _ => 0) (fun _ => 0) 2 (fun _ => 0) (fun m_order m_shelf m_opens m_listed => JX h_size h_opened c_size s0_size s1_size s2_size s3_size c_row s0_row s1_row s2_row s3_row l_len (fun _ _ => 0) t_fac t_der t_rec t_rut t_ris 4 m_opens m_order m_shelf (fun _ => 0) m_listed)) := by
  unfold q6_init
  exact t_init (fun t_fac t_der t_rec t_rut t_ris ht => c_startWith (a := 4) (by decide) (m_begin (a := 4) (by decide) ⟨4, min 2 4, fun j => j, fun _ j => j, fun _ => 0, fun _ _ => 0, Inv.new (by decide) (by decide), ⟨rfl, rfl, rfl, rfl, rfl, rfl, rfl⟩, new_Rw (Nat.le_refl _), ⟨new_Rw (Nat.le_refl _), new_Rw (Nat.le_refl _), new_Rw (Nat.le_refl _), new_Rw (Nat.le_refl _)⟩, new_CL, ht, ⟨rfl, rfl⟩, new_Rw (by decide), new_MS (by decide), new_ML⟩ (by decide)))
/-! figures read into a row -/
def loD (A : Nat) : Nat → Nat
  | 0 => A
  | i + 1 => if i < 9 then loD A i / 18 else loD A i
def hiD (B : Nat) : Nat → Nat
  | 0 => B
  | i + 1 => if i < 9 then hiD B i else hiD B i / 18
def fig (A B i : Nat) : Nat := (if i < 9 then loD A i else hiD B i) % 18
def sn (A B : Nat) : Nat → Nat
  | 0 => 0
  | i + 1 => sn A B i ||| 2 ^ fig A B i
theorem loD_le (A : Nat) : ∀ i, loD A i ≤ A := by
  intro i
  induction i with
  | zero => exact Nat.le_refl _
  | succ i ih =>
    simp only [loD]
    split
    · exact Nat.le_trans (Nat.div_le_self _ _) ih
    · exact ih
theorem hiD_le (B : Nat) : ∀ i, hiD B i ≤ B := by
  intro i
  induction i with
  | zero => exact Nat.le_refl _
  | succ i ih =>
    simp only [hiD]
    split
    · exact ih
    · exact Nat.le_trans (Nat.div_le_self _ _) ih
theorem fig_lt (A B i : Nat) : fig A B i < 18 := Nat.mod_lt _ (by decide)
theorem sn_bit (A B : Nat) : ∀ i b, (sn A B i).testBit b = true ↔ ∃ j, j < i ∧ fig A B j = b := by
  intro i
  induction i with
  | zero => intro b; simp only [sn, Nat.zero_testBit]; exact ⟨fun h => absurd h (by decide), fun ⟨j, h, _⟩ => absurd h (by omega)⟩
  | succ i ih =>
    intro b
    simp only [sn]
    rw [fb_bit_set, Bool.or_eq_true, ih, decide_eq_true_iff]
    constructor
    · rintro (⟨j, h1, h2⟩ | h)
      · exact ⟨j, by omega, h2⟩
      · exact ⟨i, by omega, h.symm⟩
    · rintro ⟨j, h1, h2⟩
      by_cases e : j = i
      · subst e; exact Or.inr h2.symm
      · exact Or.inl ⟨j, by omega, h2⟩
theorem sn_lt (A B : Nat) : ∀ i, sn A B i < 2 ^ 18 := by
  intro i
  induction i with
  | zero => show 0 < 2 ^ 18; decide
  | succ i ih => exact Nat.or_lt_two_pow ih (Nat.pow_lt_pow_right (by decide) (fig_lt A B i))
theorem shl1 : ∀ d, d < 19 → (1 : Int32) <<< (nI d &&& 31) = nI (2 ^ d) := by decide +kernel
theorem full1 : ∀ n, n < 19 → ((1 : Int32) <<< (nI n &&& 31)) - (1 : Int32) = nI (2 ^ n - 1) := by decide +kernel
theorem sn_full {A B n : Nat} (h : sn A B n = 2 ^ n - 1) : Pm n (fig A B) := by
  have hb : ∀ b, b < n ↔ ∃ j, j < n ∧ fig A B j = b := fun b => by
    rw [← sn_bit, h, Nat.testBit_two_pow_sub_one, decide_eq_true_iff]
  have hin : In n (fig A B) := fun j hj => (hb _).mpr ⟨j, hj, rfl⟩
  have hg : ∀ v, ∃ j, v < n → j < n ∧ fig A B j = v := fun v => by
    by_cases hv : v < n
    · obtain ⟨j, h1, h2⟩ := (hb v).mp hv
      exact ⟨j, fun _ => ⟨h1, h2⟩⟩
    · exact ⟨0, fun h => absurd h hv⟩
  let g : Nat → Nat := fun v => Classical.choose (hg v)
  have gs : ∀ v, v < n → g v < n ∧ fig A B (g v) = v := fun v hv => Classical.choose_spec (hg v) hv
  have gi : Pm n g := inv_Pm (σ := fig A B) gs
  refine ⟨hin, fun i j hi hj e => ?_⟩
  obtain ⟨v, hv, ev⟩ := fb_onto gi.1 (fun x y hxy hy e => by have := gi.2 x y (by omega) hy e; omega) hi
  obtain ⟨w, hw, ew⟩ := fb_onto gi.1 (fun x y hxy hy e => by have := gi.2 x y (by omega) hy e; omega) hj
  have e1 := (gs v hv).2
  have e2 := (gs w hw).2
  rw [ev] at e1
  rw [ew] at e2
  have : v = w := by omega
  rw [← ev, ← ew, this]
theorem n18 : ¬ (18 : Int64) = 0 := by decide
theorem rem18 {A : Nat} (h : A < 2 ^ 63) : (lN A - lN A / (18 : Int64) * (18 : Int64)).toInt32 = nI (A % 18) := by
  rw [show (18 : Int64) = lN 18 from rfl, pk_lRem h (by decide) (by decide), lN_i]
theorem div18 {A : Nat} (h : A < 2 ^ 63) : lN A / (18 : Int64) = lN (A / 18) := pk_lDiv (b := 18) h (by decide) (by decide)
def OKf (A B n : Nat) : Prop := loD A n = 0 ∧ hiD B n = 0 ∧ sn A B n = 2 ^ n - 1
theorem o_end {n A B : Nat} {row made : Nat → Int32} {Q : Int32 → (Nat → Int32) → (Nat → Int32) → Prop} (hn : n ≤ 18) (hA : A < 2 ^ 63) (hB : B < 2 ^ 63) (h1 : OKf A B n → Q 1 (fa_fill made row n) made) (h0 : ¬ OKf A B n → Q 0 row made) : q1_readFigures_127 (nI n) Q (lN (loD A n)) (lN (hiD B n)) (nI (sn A B n)) row made := by
  unfold q1_readFigures_127
  have ha := loD_le A n
  have hb := hiD_le B n
  have hs := sn_lt A B n
  have e1 : lN (loD A n) = 0 ↔ loD A n = 0 := pk_lEQ (b := 0) (by omega) (by decide)
  have e2 : lN (hiD B n) = 0 ↔ hiD B n = 0 := pk_lEQ (b := 0) (by omega) (by decide)
  have h2 : 2 ^ n ≤ 2 ^ 18 := Nat.pow_le_pow_right (by decide) hn
  have e3 : nI (sn A B n) = nI (2 ^ n - 1) ↔ sn A B n = 2 ^ n - 1 := nI_eq (by omega) (by omega)
  rw [e1, e2, full1 n (by omega), e3]
  exact ⟨fun g => h0 (fun k => g k.1), fun g1 => ⟨fun g => h0 (fun k => g k.2.1), fun g2 => ⟨fun g3 => o_keepMade hn (h1 ⟨g1, g2, g3⟩), fun g => h0 (fun k => g k.2.2)⟩⟩⟩
theorem o_read {n A B : Nat} {row made : Nat → Int32} {Q : Int32 → (Nat → Int32) → (Nat → Int32) → Prop} (hn : n ≤ 18) (hA : A < 2 ^ 63) (hB : B < 2 ^ 63) (h1 : OKf A B n → ∀ made', Q 1 (fa_fill (fun j => nI (fig A B j)) row n) made') (h0 : ¬ OKf A B n → ∀ made', Q 0 row made') : ∃ k, q1_readFigures_26 (nI n) Q k (lN A) (lN B) 0 0 row made := by
  have hlow := fa_first_no (fun i => decide (n ≤ fig A B i)) n
  have hyes := fa_first_yes (fun i => decide (n ≤ fig A B i)) n
  have hle := fa_first_le (fun i => decide (n ≤ fig A B i)) n
  generalize fa_first (fun i => decide (n ≤ fig A B i)) n = T at hlow hyes hle
  have hstep : ∀ (k i : Nat), i < n → (fig A B i < n → q1_readFigures_26 (nI n) Q k (lN (loD A (i + 1))) (lN (hiD B (i + 1))) (nI (sn A B (i + 1))) (nI (i + 1)) row (fa_fill (fun j => nI (fig A B j)) made (i + 1))) → (n ≤ fig A B i → Q 0 row (fa_fill (fun j => nI (fig A B j)) made i)) → q1_readFigures_26 (nI n) Q (k + 1) (lN (loD A i)) (lN (hiD B i)) (nI (sn A B i)) (nI i) row (fa_fill (fun j => nI (fig A B j)) made i) := by
    intro k i hi hgo hstop
    unfold q1_readFigures_26
    have ha := loD_le A i
    have hb := hiD_le B i
    have hf := fig_lt A B i
    have hold : ∀ R : Int32 → Prop, (fig A B i < n → R 1) → (n ≤ fig A B i → R 0) → q1_holds (nI n) (nI (fig A B i)) R := fun R r1 r0 => by
      unfold q1_holds
      exact pk_lt (fig A B i) 0 (fun h => by omega) (fun _ => pk_le n (fig A B i) r0 r1)
    have h103 : ∀ x5 x7 : Int64, x5 = lN (loD A (i + 1)) → x7 = lN (hiD B (i + 1)) → fig A B i < n → q1_readFigures_103 (nI n) (fun v0 v1 v2 v3 v4 v5 => q1_readFigures_26 (nI n) Q k v0 v1 v2 v3 v4 v5) Q x5 x7 (nI (sn A B i)) (nI i) (nI (fig A B i)) row (fa_fill (fun j => nI (fig A B j)) made i) := fun x5 x7 e5 e7 hlt => by
      unfold q1_readFigures_103
      subst e5 e7
      refine ⟨pk_in i 18 (by omega), ?_⟩
      rw [shl1 _ (by omega), fa_or, nI_1, nI_clamp (by omega), fa_fill_succ (fun j => nI (fig A B j))]
      exact hgo hlt
    refine pk_le n i (fun h => by omega) (fun _ => pk_le 9 i (fun g => ?_) (fun g => ?_))
    · unfold q1_readFigures_47
      refine z0 ?_
      unfold q1_readFigures_61
      have e : (lN (hiD B i) - lN (hiD B i) / (18 : Int64) * (18 : Int64)).toInt32 = nI (fig A B i) := by
        rw [rem18 (by omega)]; unfold fig; rw [if_neg (by omega)]
      rw [e]
      refine ⟨n18, hold _ (fun hlt => y1 (z0 ⟨n18, h103 _ _ ?_ ?_ hlt⟩)) (fun hge => y0 (hstop hge))⟩
      · simp only [loD]; rw [if_neg (by omega)]
      · simp only [hiD]; rw [if_neg (by omega), div18 (by omega)]
    · unfold q1_readFigures_47
      refine z1 ?_
      unfold q1_readFigures_61
      have e : (lN (loD A i) - lN (loD A i) / (18 : Int64) * (18 : Int64)).toInt32 = nI (fig A B i) := by
        rw [rem18 (by omega)]; unfold fig; rw [if_pos (by omega)]
      rw [e]
      refine ⟨n18, hold _ (fun hlt => y1 (z1 ⟨n18, h103 _ _ ?_ ?_ hlt⟩)) (fun hge => y0 (hstop hge))⟩
      · simp only [loD]; rw [if_pos (by omega), div18 (by omega)]
      · simp only [hiD]; rw [if_pos (by omega)]
  refine up6 (q1_readFigures_26 (nI n) Q) (fun i => lN (loD A i)) (fun i => lN (hiD B i)) (fun i => nI (sn A B i)) (fun i => nI i) (fun _ => row) (fun i => fa_fill (fun j => nI (fig A B j)) made i) 0 T (Nat.zero_le _) (fun k => ?_) (fun k i _ hi ih => ?_) rfl rfl rfl rfl rfl (fa_fill_0 _ _).symm
  · by_cases hT : T < n
    · have hy : n ≤ fig A B T := by simpa using hyes hT
      refine hstep k T hT (fun h => by omega) (fun _ => h0 (fun hok => ?_) _)
      have := (sn_full hok.2.2).1 T hT
      omega
    · have : T = n := by omega
      subst this
      unfold q1_readFigures_26
      refine pk_le T T (fun _ => ?_) (fun h => by omega)
      refine o_end hn hA hB (fun hok => ?_) (fun hno => h0 hno _)
      have e : fa_fill (fa_fill (fun j => nI (fig A B j)) made T) row T = fa_fill (fun j => nI (fig A B j)) row T := funext fun x => by
        by_cases hx : x < T
        · rw [fa_fill_in hx, fa_fill_in hx, fa_fill_in hx]
        · rw [fa_fill_out (by omega), fa_fill_out (by omega)]
      rw [e]
      exact h1 hok _
  · have hno := hlow i hi
    exact hstep k i (by omega) (fun _ => ih) (fun h => absurd h (by simpa using hno))
theorem m_read {n A B : Nat} {row work : Nat → Int32} {Q : Int32 → (Nat → Int32) → (Nat → Int32) → Prop} (hn : n ≤ 18) (hA : A < 2 ^ 63) (hB : B < 2 ^ 63) (h1 : OKf A B n → ∀ work', Q 1 (fa_fill (fun j => nI (fig A B j)) row n) work') (h0 : ¬ OKf A B n → ∀ work', Q (-2) row work') : ∃ k, q7_order_27 (nI n) Q k (lN A) (lN B) 0 0 row work := by
  refine up6 (q7_order_27 (nI n) Q) (fun i => lN (loD A i)) (fun i => lN (hiD B i)) (fun i => nI (sn A B i)) (fun i => nI i) (fun _ => row) (fun i => fa_fill (fun j => nI (fig A B j)) work i) 0 n (Nat.zero_le _) (fun k => ?_) (fun k i _ hi ih => ?_) rfl rfl rfl rfl rfl (fa_fill_0 _ _).symm
  · unfold q7_order_27
    refine pk_le n n (fun _ => ?_) (fun h => by omega)
    unfold q7_order_126
    have ha := loD_le A n
    have hb := hiD_le B n
    have hs := sn_lt A B n
    have e1 : lN (loD A n) = 0 ↔ loD A n = 0 := pk_lEQ (b := 0) (by omega) (by decide)
    have e2 : lN (hiD B n) = 0 ↔ hiD B n = 0 := pk_lEQ (b := 0) (by omega) (by decide)
    have h2 : 2 ^ n ≤ 2 ^ 18 := Nat.pow_le_pow_right (by decide) hn
    have e3 : nI (sn A B n) = nI (2 ^ n - 1) ↔ sn A B n = 2 ^ n - 1 := nI_eq (by omega) (by omega)
    rw [e1, e2, full1 n (by omega), e3]
    refine ⟨fun g => h0 (fun k => g k.1) _, fun g1 => ⟨fun g => h0 (fun k => g k.2.1) _, fun g2 => ⟨fun g3 => m_become hn ?_, fun g => h0 (fun k => g k.2.2) _⟩⟩⟩
    have e : fa_fill (fa_fill (fun j => nI (fig A B j)) work n) row n = fa_fill (fun j => nI (fig A B j)) row n := funext fun x => by
      by_cases hx : x < n
      · rw [fa_fill_in hx, fa_fill_in hx, fa_fill_in hx]
      · rw [fa_fill_out (by omega), fa_fill_out (by omega)]
    rw [e]
    exact h1 ⟨g1, g2, g3⟩ _
  · unfold q7_order_27
    have ha := loD_le A i
    have hb := hiD_le B i
    have hf := fig_lt A B i
    have h104 : ∀ x5 x7 : Int64, x5 = lN (loD A (i + 1)) → x7 = lN (hiD B (i + 1)) → q7_order_104 (nI n) (fun v0 v1 v2 v3 v4 v5 => q7_order_27 (nI n) Q k v0 v1 v2 v3 v4 v5) Q x7 x5 (nI (sn A B i)) (nI i) row (fa_fill (fun j => nI (fig A B j)) work (i + 1)) := fun x5 x7 e5 e7 => by
      unfold q7_order_104
      subst e5 e7
      refine ⟨pk_in i 18 (by omega), ?_⟩
      rw [nI_clamp (by omega), fa_fill_in (by omega), shl1 _ (by omega), fa_or, nI_1]
      exact ih
    refine pk_le n i (fun h => by omega) (fun _ => pk_le 9 i (fun g => ⟨n18, ?_⟩) (fun g => ⟨n18, ?_⟩))
    · unfold q7_order_64
      have e : (lN (hiD B i) - lN (hiD B i) / (18 : Int64) * (18 : Int64)).toInt32 = nI (fig A B i) := by
        rw [rem18 (by omega)]; unfold fig; rw [if_neg (by omega)]
      rw [e, nI_clamp (by omega), fa_fill_succ (fun j => nI (fig A B j))]
      refine ⟨pk_in i 18 (by omega), pk_le 9 i (fun _ => ?_) (fun h => by omega)⟩
      unfold q7_order_84
      refine pk_le 9 i (fun _ => ⟨n18, h104 _ _ ?_ ?_⟩) (fun h => by omega)
      · simp only [loD]; rw [if_neg (by omega)]
      · simp only [hiD]; rw [if_neg (by omega), div18 (by omega)]
    · unfold q7_order_64
      have e : (lN (loD A i) - lN (loD A i) / (18 : Int64) * (18 : Int64)).toInt32 = nI (fig A B i) := by
        rw [rem18 (by omega)]; unfold fig; rw [if_pos (by omega)]
      rw [e, nI_clamp (by omega), fa_fill_succ (fun j => nI (fig A B j))]
      refine ⟨pk_in i 18 (by omega), pk_le 9 i (fun h => by omega) (fun _ => ⟨n18, ?_⟩)⟩
      unfold q7_order_84
      refine pk_le 9 i (fun h => by omega) (fun _ => h104 _ _ ?_ ?_)
      · simp only [loD]; rw [if_pos (by omega), div18 (by omega)]
      · simp only [hiD]; rw [if_pos (by omega)]
theorem js_order {G : Nat → Nat → (Nat → Int64) → Prop} : JS_order HJ G := by
  intro h_size h_opened h_tal s0_row s0_made s0_size s1_row s1_made s1_size s2_row s2_made s2_size s3_row s3_made s3_size l_len l_ways l_box w_used w_kind w_size w_left w_last w_top w_wanted c_row c_made c_size t_fac t_der t_rec t_rut t_ris m_n m_order m_shelf m_opens m_lists m_listed m_work m_counts m_older m_products m_part m_parts m_ways m_used m_greaterNow m_countNow a1 a3 hJ
  obtain ⟨n, k, σ, τ, ln, bx, hI, ⟨rfl, rfl, rfl, rfl, rfl, rfl, rfl⟩, hc, hcs, hcl, ht, ⟨rfl, rfl⟩, hmo, hms, hml⟩ := hJ
  have hn := hI.2.1
  have h1n := hI.1
  unfold q6_order q1_readFigures q7_order
  by_cases g1 : a1 < 0
  · exact ⟨fun _ => z0 ⟨fun _ => ⟨rfl, n, k, σ, τ, ln, bx, hI, ⟨rfl, rfl, rfl, rfl, rfl, rfl, rfl⟩, hc, hcs, hcl, ht, ⟨rfl, rfl⟩, hmo, hms, hml⟩, fun h => absurd g1 h⟩, fun h => absurd g1 h⟩
  · refine ⟨fun h => absurd h g1, fun _ => ?_⟩
    by_cases g2 : (0 : Int64) ≤ a3
    · obtain ⟨A, hA, rfl⟩ := pk_lOf g1
      obtain ⟨B, hB, rfl⟩ := pk_lOf (x := a3) (fun h => by rw [Int64.lt_iff_toInt_lt] at h; have g3 := Int64.le_iff_toInt_le.mp g2; omega)
      refine ⟨fun _ => o_read hn hA hB (fun hok made' => z1 ⟨fun h => absurd h g1, fun _ => ⟨fun _ => m_read hn hA hB (fun _ work' => ⟨rfl, n, k, fig A B, τ, ln, bx, hI.row (sn_full hok.2.2), ⟨rfl, rfl, rfl, rfl, rfl, rfl, rfl⟩, lay_Rw, hcs, hcl, ht, ⟨rfl, rfl⟩, lay_Rw, hms, hml⟩) (fun hn2 => absurd hok hn2), fun h => absurd g2 h⟩⟩) (fun hnok made' => z0 ⟨fun h => absurd h g1, fun _ => ⟨fun _ => m_read hn hA hB (fun hok => absurd hok hnok) (fun _ work' => ⟨rfl, n, k, σ, τ, ln, bx, hI, ⟨rfl, rfl, rfl, rfl, rfl, rfl, rfl⟩, hc, hcs, hcl, ht, ⟨rfl, rfl⟩, hmo, hms, hml⟩), fun h => absurd g2 h⟩⟩), fun h => absurd g2 h⟩
    · exact ⟨fun h => absurd h g2, fun _ => z0 ⟨fun h => absurd h g1, fun _ => ⟨fun h => absurd h g2, fun _ => ⟨rfl, n, k, σ, τ, ln, bx, hI, ⟨rfl, rfl, rfl, rfl, rfl, rfl, rfl⟩, hc, hcs, hcl, ht, ⟨rfl, rfl⟩, hmo, hms, hml⟩⟩⟩⟩
