/-! lists of boxes -/
theorem lb_holds {p : Nat} {Q : Int32 → Prop} (hp : p < 18) (h : Q 1) : q0_holds (nI p) Q := by
  unfold q0_holds
  exact pk_lt p 0 (fun h => by omega) (fun _ => pk_le 18 p (fun h => by omega) (fun _ => h))
theorem l_emptyAll {l : Nat → Int32} {Q : (Nat → Int32) → Prop} (h : Q (fa_fill (fun _ => 0) l 18)) : q0_emptyAll l Q := by
  unfold q0_emptyAll
  refine up2 (q0_emptyAll_2 Q) (fun j => nI j) (fun j => fa_fill (fun _ => 0) l j) 0 18 (Nat.zero_le _) (fun k => ?_) (fun k j h1 h2 ih => ?_) rfl (fa_fill_0 _ _).symm
  · unfold q0_emptyAll_2
    exact pk_le 18 18 (fun _ => h) (fun h => by omega)
  · unfold q0_emptyAll_2
    refine pk_le 18 j (fun h => by omega) (fun _ => ⟨pk_in j 18 (by omega), ?_⟩)
    rw [nI_1, nI_clamp (by omega), fa_fill_succ (fun _ => (0 : Int32))]
    exact ih
theorem l_emptyOne {l : Nat → Int32} {p : Nat} {Q : Int32 → (Nat → Int32) → Prop} (hp : p < 18) (h : Q (l p) (upd l p 0)) : q0_emptyOne l (nI p) Q := by
  unfold q0_emptyOne
  refine lb_holds hp (y1 ⟨pk_in p 18 hp, pk_in p 18 hp, ?_⟩)
  rw [nI_clamp (by omega)]
  exact h
theorem l_firstOf {l : Nat → Int32} {p x y : Nat} {Q : Int32 → Prop} (hp : p < 18) (hl : l p = nI x) (hx : x ≤ 18) (hy : y ≤ 18) (h : Q (nI (min x y))) : q0_firstOf l (nI p) (nI y) Q := by
  unfold q0_firstOf
  refine lb_holds hp (z1 ⟨pk_in p 18 hp, ?_⟩)
  rw [nI_clamp (by omega), hl, show (18 : Int32) = nI 18 from rfl, if_neg (nI_nlt hy (by decide)), nI_min (by omega) (by omega)]
  exact h
def anB (p : Nat → Bool) : Nat → Bool
  | 0 => false
  | j + 1 => anB p j || p j
theorem anB_iff {p : Nat → Bool} : ∀ j, anB p j = true ↔ ∃ i, i < j ∧ p i = true := by
  intro j
  induction j with
  | zero => simp only [anB]; exact ⟨fun h => absurd h (by decide), fun ⟨i, h, _⟩ => absurd h (by omega)⟩
  | succ j ih =>
    simp only [anB, Bool.or_eq_true, ih]
    constructor
    · rintro (⟨i, a, b⟩ | h)
      · exact ⟨i, by omega, b⟩
      · exact ⟨j, by omega, h⟩
    · rintro ⟨i, a, b⟩
      by_cases e : i = j
      · subst e; exact Or.inr b
      · exact Or.inl ⟨i, by omega, b⟩
theorem anB_no {p : Nat → Bool} {j : Nat} (h : ∀ i, i < j → p i = false) : anB p j = false := by
  cases e : anB p j
  · rfl
  · obtain ⟨i, a, b⟩ := (anB_iff j).mp e
    rw [h i a] at b
    cases b
theorem l_hasBox {l : Nat → Int32} {lb : Nat → Nat → Int32} {bx : Nat → Nat → Nat} {p b x : Nat} {Q : Int32 → Prop} (hp : p < 18) (hl : l p = nI x) (hx : x ≤ 18) (hbx : ∀ i, i < x → lb p i = nI (bx p i)) (hlt : ∀ i, i < x → bx p i < 18) (hb : b < 18) (h : Q (bI (anB (fun i => decide (bx p i = b)) x))) : q0_hasBox l lb (nI p) (nI b) Q := by
  unfold q0_hasBox
  rw [show (18 : Int32) = nI 18 from rfl]
  refine l_firstOf hp hl hx (Nat.le_refl _) ?_
  rw [Nat.min_eq_left hx]
  have hlow := fa_first_no (fun i => decide (bx p i = b)) x
  have hyes := fa_first_yes (fun i => decide (bx p i = b)) x
  have hle := fa_first_le (fun i => decide (bx p i = b)) x
  generalize fa_first (fun i => decide (bx p i = b)) x = T at hlow hyes hle
  refine up4 (q0_hasBox_11 l lb Q) (fun _ => nI p) (fun _ => nI b) (fun _ => nI x) (fun i => nI i) 0 T (Nat.zero_le _) (fun k => ?_) (fun k i _ hi ih => ?_) rfl rfl rfl rfl
  · unfold q0_hasBox_11
    refine pk_le x T (fun g => ?_) (fun g => ⟨pk_in p 18 hp, pk_in T 18 (by omega), ?_⟩)
    · rw [anB_no (fun i hi => hlow i (by omega))] at h
      exact h
    · have hy := hyes g
      have := hlt T g
      rw [nI_clamp (by omega), nI_clamp (by omega), hbx T g]
      rw [(anB_iff (p := fun i => decide (bx p i = b)) x).mpr ⟨T, g, hy⟩] at h
      exact pk_ne (bx p T) b (fun g2 => absurd (by simpa using hy) g2) (fun _ => h)
  · unfold q0_hasBox_11
    have hno := hlow i hi
    have := hlt i (by omega)
    rw [nI_clamp (by omega), nI_clamp (by omega), hbx i (by omega), nI_1]
    exact pk_le x i (fun g => by omega) (fun g => ⟨pk_in p 18 hp, pk_in i 18 (by omega), pk_ne (bx p i) b (fun _ => ih) (fun g2 => absurd g2 (by simpa using hno))⟩)
theorem l_addBox {l : Nat → Int32} {lb : Nat → Nat → Int32} {p x : Nat} {b : Int32} {Q : Int32 → (Nat → Int32) → (Nat → Nat → Int32) → Prop} (hp : p < 18) (hl : l p = nI x) (hx : x < 18) (h : Q (nI (x + 1)) (upd l p (nI (x + 1))) (va_up lb p (upd (lb p) x b))) : q0_addBox l lb (nI p) b Q := by
  unfold q0_addBox
  rw [nI_clamp (by omega), hl, nI_clamp (by omega), nI_1, pk_us]
  exact lb_holds hp (z1 ⟨pk_in p 18 hp, pk_lt x 18 (fun _ => ⟨pk_in p 18 hp, pk_in p 18 hp, pk_in x 18 hx, pk_in p 18 hp, pk_in p 18 hp, pk_in p 18 hp, h⟩) (fun g => by omega)⟩)
theorem m_list21 {n p b x : Nat} {ml md : Nat → Int32} {bx : Nat → Nat → Nat} {Q : Int32 → (Nat → Int32) → (Nat → Int32) → Prop} (hp : p < 18) (hd : md p = nI x) (hx : x < 18) (hbx : ∀ i, i < x → ml (18 * p + i) = nI (bx p i)) (hlt : ∀ i, i < x → bx p i < 18) (hb : b < 18) (h1 : anB (fun i => decide (bx p i = b)) x = true → Q (-4) ml md) (h0 : anB (fun i => decide (bx p i = b)) x = false → Q (nI (x + 1)) (upd ml (18 * p + x) (nI b)) (upd md p (nI (x + 1)))) : ∃ k, q7_list_21 (nI n) Q k (nI p) (nI b) 0 ml md := by
  have hlow := fa_first_no (fun i => decide (bx p i = b)) x
  have hyes := fa_first_yes (fun i => decide (bx p i = b)) x
  have hle := fa_first_le (fun i => decide (bx p i = b)) x
  generalize fa_first (fun i => decide (bx p i = b)) x = T at hlow hyes hle
  refine up5 (q7_list_21 (nI n) Q) (fun _ => nI p) (fun _ => nI b) (fun i => nI i) (fun _ => ml) (fun _ => md) 0 T (Nat.zero_le _) (fun k => ?_) (fun k i _ hi ih => ?_) rfl rfl rfl rfl rfl
  · unfold q7_list_21
    rw [ix18, nI_clamp (n := p) (by omega), nI_clamp (by omega), hd]
    refine ⟨pk_in p 18 hp, pk_le x T (fun g => ?_) (fun g => ⟨pk_in (18 * p + T) 324 (by omega), ?_⟩)⟩
    · unfold q7_list_55
      rw [nI_clamp (n := p) (by omega), hd, ix18, nI_clamp (by omega), nI_1, pk_us]
      exact ⟨pk_in p 18 hp, pk_in (18 * p + x) 324 (by omega), pk_in p 18 hp, pk_in p 18 hp, pk_in p 18 hp, h0 (anB_no (fun i hi => hlow i (by omega)))⟩
    · have hy := hyes g
      have := hlt T g
      rw [hbx T g]
      exact pk_ne (bx p T) b (fun g2 => absurd (by simpa using hy) g2) (fun _ => h1 ((anB_iff (p := fun i => decide (bx p i = b)) x).mpr ⟨T, g, hy⟩))
  · unfold q7_list_21
    have hno := hlow i hi
    have := hlt i (by omega)
    rw [ix18, nI_clamp (n := p) (by omega), nI_clamp (by omega), hd, hbx i (by omega), nI_1]
    exact ⟨pk_in p 18 hp, pk_le x i (fun g => by omega) (fun g => ⟨pk_in (18 * p + i) 324 (by omega), pk_ne (bx p i) b (fun _ => ih) (fun g2 => absurd g2 (by simpa using hno))⟩)⟩
/-- a list that does not hold b has room for it -/
theorem room {n x b : Nat} {f : Nat → Nat} (h1 : ∀ i, i < x → f i < n) (h2 : ∀ i j, i < x → j < x → f i = f j → i = j) (hb : b < n) (h3 : ∀ i, i < x → f i ≠ b) : x + 1 ≤ n := by
  refine fb_holes n (x + 1) (fun i => if i = x then b else f i) (fun i hi => ?_) (fun i j hij hj => ?_)
  · split
    · exact hb
    · exact h1 i (by omega)
  · rw [if_neg (show i ≠ x by omega)]
    split
    · exact h3 i (by omega)
    · exact fun e => by have := h2 i j (by omega) (by omega) e; omega
theorem m_list21f {n p b x : Nat} {ml md : Nat → Int32} {bx : Nat → Nat → Nat} {Q : Int32 → (Nat → Int32) → (Nat → Int32) → Prop} (hp : p < 18) (hd : md p = nI x) (hx : x ≤ 18) (hbx : ∀ i, i < x → ml (18 * p + i) = nI (bx p i)) (hlt : ∀ i, i < x → bx p i < 18) (hb : b < 18) (hf : anB (fun i => decide (bx p i = b)) x = true) (h1 : Q (-4) ml md) : ∃ k, q7_list_21 (nI n) Q k (nI p) (nI b) 0 ml md := by
  have hlow := fa_first_no (fun i => decide (bx p i = b)) x
  have hyes := fa_first_yes (fun i => decide (bx p i = b)) x
  have hle := fa_first_le (fun i => decide (bx p i = b)) x
  generalize fa_first (fun i => decide (bx p i = b)) x = T at hlow hyes hle
  have hT : T < x := by
    obtain ⟨i, hi, hp2⟩ := (anB_iff (p := fun i => decide (bx p i = b)) x).mp hf
    rcases Nat.lt_or_ge i T with g | g
    · have := hlow i g
      rw [this] at hp2; cases hp2
    · omega
  refine up5 (q7_list_21 (nI n) Q) (fun _ => nI p) (fun _ => nI b) (fun i => nI i) (fun _ => ml) (fun _ => md) 0 T (Nat.zero_le _) (fun k => ?_) (fun k i _ hi ih => ?_) rfl rfl rfl rfl rfl
  · unfold q7_list_21
    have hy := hyes hT
    have := hlt T hT
    rw [ix18, nI_clamp (n := p) (by omega), nI_clamp (by omega), hd, hbx T hT]
    exact ⟨pk_in p 18 hp, pk_le x T (fun g => by omega) (fun g => ⟨pk_in (18 * p + T) 324 (by omega), pk_ne (bx p T) b (fun g2 => absurd (by simpa using hy) g2) (fun _ => h1)⟩)⟩
  · unfold q7_list_21
    have hno := hlow i hi
    have := hlt i (by omega)
    rw [ix18, nI_clamp (n := p) (by omega), nI_clamp (by omega), hd, hbx i (by omega), nI_1]
    exact ⟨pk_in p 18 hp, pk_le x i (fun g => by omega) (fun g => ⟨pk_in (18 * p + i) 324 (by omega), pk_ne (bx p i) b (fun _ => ih) (fun g2 => absurd g2 (by simpa using hno))⟩)⟩
theorem js_list {G : Nat → Nat → (Nat → Int64) → Prop} : JS_list HJ G := by
  intro h_size h_opened h_tal s0_row s0_made s0_size s1_row s1_made s1_size s2_row s2_made s2_size s3_row s3_made s3_size l_len l_ways l_box w_used w_kind w_size w_left w_last w_top w_wanted c_row c_made c_size t_fac t_der t_rec t_rut t_ris m_n m_order m_shelf m_opens m_lists m_listed m_work m_counts m_older m_products m_part m_parts m_ways m_used m_greaterNow m_countNow a1 a2 hJ
  obtain ⟨n, k, σ, τ, ln, bx, hI, ⟨rfl, rfl, rfl, rfl, rfl, rfl, rfl⟩, hc, hcs, hcl, ht, ⟨rfl, rfl⟩, hmo, hms, hml⟩ := hJ
  have hn := hI.2.1
  have h1n := hI.1
  obtain ⟨-, -, -, hσ, hτ, hlen, hzero, hbl, hbd⟩ := id hI
  rcases ix a1 (n := n) (by omega) with hb | ⟨p, hp, rfl⟩
  · exact c_th0 hb (z0 (m_th0 hn h1n hb (z0 ⟨rfl, n, k, σ, τ, ln, bx, hI, ⟨rfl, rfl, rfl, rfl, rfl, rfl, rfl⟩, hc, hcs, hcl, ht, ⟨rfl, rfl⟩, hmo, hms, hml⟩)))
  · refine c_th1 hn hp (z1 ?_)
    rcases ix a2 (n := n) (by omega) with hb | ⟨b, hb, rfl⟩
    · exact c_th0 hb (y0 (m_th1 hn hp (z1 (m_th0 hn h1n hb (y0 ⟨rfl, n, k, σ, τ, ln, bx, hI, ⟨rfl, rfl, rfl, rfl, rfl, rfl, rfl⟩, hc, hcs, hcl, ht, ⟨rfl, rfl⟩, hmo, hms, hml⟩)))))
    · have hx := hlen p (by omega)
      refine c_th1 hn hb (y1 (l_hasBox (bx := bx) (by omega) (hcl.1 p (by omega)) (by omega) (fun i hi => hcl.2 p i (by omega) hi) (fun i hi => by have := hbl p i (by omega) hi; omega) (by omega) ?_))
      have hx18 : anB (fun i => decide (bx p i = b)) (ln p) = false → ln p < 18 := fun hf => by
        have := room (fun i hi => hbl p i (by omega) hi) (fun i j hi hj => hbd p i j (by omega) hi hj) hb (fun i hi e => by
          have := (anB_iff (p := fun i => decide (bx p i = b)) (ln p)).mpr ⟨i, hi, by simp [e]⟩
          rw [hf] at this; cases this)
        omega
      refine ⟨fun e => ?_, fun e => ?_⟩
      · have hf := bI_eq0.mp e
        have hr := room (fun i hi => hbl p i (by omega) hi) (fun i j hi hj => hbd p i j (by omega) hi hj) hb (fun i hi e => by
          have := (anB_iff (p := fun i => decide (bx p i = b)) (ln p)).mpr ⟨i, hi, by simp [e]⟩
          rw [hf] at this; cases this)
        have hno : ∀ i, i < ln p → bx p i ≠ b := fun i hi e => by
          have := (anB_iff (p := fun i => decide (bx p i = b)) (ln p)).mpr ⟨i, hi, by simp [e]⟩
          rw [hf] at this; cases this
        refine l_addBox (by omega) (hcl.1 p (by omega)) (by omega) (m_th1 hn hp (z1 (m_th1 hn hb (y1 (m_list21 (bx := bx) (by omega) (hml.1 p (by omega)) (by omega) (fun i hi => hml.2 p i (by omega) hi) (fun i hi => by have := hbl p i (by omega) hi; omega) (by omega) (fun e2 => by rw [hf] at e2; cases e2) (fun _ => ⟨rfl, n, k, σ, τ, fun q => if q = p then ln p + 1 else ln q, fun q i => if q = p ∧ i = ln p then b else bx q i, ?_, ⟨rfl, rfl, rfl, rfl, rfl, rfl, rfl⟩, hc, hcs, ?_, ht, ⟨rfl, rfl⟩, hmo, hms, ?_⟩))))))
        · refine ⟨h1n, hn, hI.2.2.1, hσ, hτ, fun q hq => ?_, fun q hq hq2 => ?_, fun q i hq hi => ?_, fun q i j hq hi hj e => ?_⟩
          · dsimp only; split
            · exact hr
            · exact hlen q hq
          · dsimp only; rw [if_neg (by omega)]; exact hzero q hq hq2
          · dsimp only at hi ⊢
            by_cases e : q = p
            · subst e
              rw [if_pos rfl] at hi
              split
              · exact hb
              · rename_i g; exact hbl q i hq (by omega)
            · rw [if_neg e] at hi
              rw [if_neg (fun g => e g.1)]
              exact hbl q i hq hi
          · dsimp only at hi hj e
            by_cases e2 : q = p
            · subst e2
              rw [if_pos rfl] at hi hj
              by_cases ei : i = ln q <;> by_cases ej : j = ln q
              · omega
              · rw [if_pos ⟨rfl, ei⟩, if_neg (fun g => ej g.2)] at e
                exact absurd e.symm (hno j (by omega))
              · rw [if_neg (fun g => ei g.2), if_pos ⟨rfl, ej⟩] at e
                exact absurd e (hno i (by omega))
              · rw [if_neg (fun g => ei g.2), if_neg (fun g => ej g.2)] at e
                exact hbd q i j hq (by omega) (by omega) e
            · rw [if_neg e2] at hi hj
              rw [if_neg (fun g => e2 g.1), if_neg (fun g => e2 g.1)] at e
              exact hbd q i j hq hi hj e
        · refine ⟨fun q hq => ?_, fun q i hq hi => ?_⟩
          · dsimp only
            by_cases e : q = p
            · rw [if_pos e, e, pk_us]
            · rw [if_neg e, pk_un e]; exact hcl.1 q hq
          · dsimp only at hi ⊢
            by_cases e : q = p
            · subst e
              rw [if_pos rfl] at hi
              rw [up_s]
              by_cases e2 : i = ln q
              · rw [if_pos ⟨rfl, e2⟩, e2, pk_us]
              · rw [if_neg (fun g => e2 g.2), pk_un e2]; exact hcl.2 q i hq (by omega)
            · rw [if_neg e] at hi
              rw [if_neg (fun g => e g.1), up_n e]; exact hcl.2 q i hq hi
        · refine ⟨fun q hq => ?_, fun q i hq hi => ?_⟩
          · dsimp only
            by_cases e : q = p
            · rw [if_pos e, e, pk_us]
            · rw [if_neg e, pk_un e]; exact hml.1 q hq
          · dsimp only at hi ⊢
            by_cases e : q = p
            · subst e
              rw [if_pos rfl] at hi
              by_cases e2 : i = ln q
              · rw [if_pos ⟨rfl, e2⟩, e2, pk_us]
              · rw [if_neg (fun g => e2 g.2), pk_un (by omega)]; exact hml.2 q i hq (by omega)
            · rw [if_neg e] at hi
              have := hlen q hq
              have := hlen p (by omega)
              rw [if_neg (fun g => e g.1), pk_un (by omega)]; exact hml.2 q i hq hi
      · have ht9 := bI_ne0.mp e
        have hlt18 : ln p ≤ 18 := by omega
        refine m_th1 hn hp (z1 (m_th1 hn hb (y1 ?_)))
        by_cases hfull : ln p < 18
        · exact m_list21 (bx := bx) (by omega) (hml.1 p (by omega)) hfull (fun i hi => hml.2 p i (by omega) hi) (fun i hi => by have := hbl p i (by omega) hi; omega) (by omega) (fun _ => ⟨rfl, n, k, σ, τ, ln, bx, hI, ⟨rfl, rfl, rfl, rfl, rfl, rfl, rfl⟩, hc, hcs, hcl, ht, ⟨rfl, rfl⟩, hmo, hms, hml⟩) (fun e2 => by rw [ht9] at e2; cases e2)
        · exact m_list21f (bx := bx) (by omega) (hml.1 p (by omega)) (by omega) (fun i hi => hml.2 p i (by omega) hi) (fun i hi => by have := hbl p i (by omega) hi; omega) (by omega) ht9 ⟨rfl, n, k, σ, τ, ln, bx, hI, ⟨rfl, rfl, rfl, rfl, rfl, rfl, rfl⟩, hc, hcs, hcl, ht, ⟨rfl, rfl⟩, hmo, hms, hml⟩
theorem Inv.fg {n k p : Nat} {σ : Nat → Nat} {τ : Nat → Nat → Nat} {ln : Nat → Nat} {bx : Nat → Nat → Nat} (h : Inv n k σ τ ln bx) : Inv n k σ τ (fun q => if q = p then 0 else ln q) bx := by
  obtain ⟨a, b, c, d, e, f, g, i, j⟩ := h
  refine ⟨a, b, c, d, e, fun q hq => ?_, fun q hq hq2 => ?_, fun q i' hq hi => ?_, fun q i' j' hq hi hj => ?_⟩
  · dsimp only; split
    · omega
    · exact f q hq
  · dsimp only; split
    · rfl
    · exact g q hq hq2
  · dsimp only at hi
    split at hi
    · omega
    · exact i q i' hq hi
  · dsimp only at hi hj
    split at hi
    · omega
    · rename_i e2
      rw [if_neg e2] at hj
      exact j q i' j' hq hi hj
theorem js_forget {G : Nat → Nat → (Nat → Int64) → Prop} : JS_forget HJ G := by
  intro h_size h_opened h_tal s0_row s0_made s0_size s1_row s1_made s1_size s2_row s2_made s2_size s3_row s3_made s3_size l_len l_ways l_box w_used w_kind w_size w_left w_last w_top w_wanted c_row c_made c_size t_fac t_der t_rec t_rut t_ris m_n m_order m_shelf m_opens m_lists m_listed m_work m_counts m_older m_products m_part m_parts m_ways m_used m_greaterNow m_countNow a1 hJ
  obtain ⟨n, k, σ, τ, ln, bx, hI, ⟨rfl, rfl, rfl, rfl, rfl, rfl, rfl⟩, hc, hcs, hcl, ht, ⟨rfl, rfl⟩, hmo, hms, hml⟩ := hJ
  have hn := hI.2.1
  have h1n := hI.1
  rcases ix a1 (n := n) (by omega) with hb | ⟨p, hp, rfl⟩
  · exact c_th0 hb (z0 (m_th0 hn h1n hb (y0 ⟨rfl, n, k, σ, τ, ln, bx, hI, ⟨rfl, rfl, rfl, rfl, rfl, rfl, rfl⟩, hc, hcs, hcl, ht, ⟨rfl, rfl⟩, hmo, hms, hml⟩)))
  · refine c_th1 hn hp (z1 (l_emptyOne (by omega) (m_th1 hn hp (y1 ⟨pk_in p 18 (by omega), pk_in p 18 (by omega), ?_⟩))))
    rw [nI_clamp (by omega)]
    refine ⟨by rw [hcl.1 p (by omega), hml.1 p (by omega)], n, k, σ, τ, fun q => if q = p then 0 else ln q, bx, hI.fg, ⟨rfl, rfl, rfl, rfl, rfl, rfl, rfl⟩, hc, hcs, ?_, ht, ⟨rfl, rfl⟩, hmo, hms, ?_⟩
    · refine ⟨fun q hq => ?_, fun q i hq hi => ?_⟩
      · dsimp only
        by_cases e : q = p
        · rw [if_pos e, e, pk_us]; rfl
        · rw [if_neg e, pk_un e]; exact hcl.1 q hq
      · dsimp only at hi
        split at hi
        · omega
        · exact hcl.2 q i hq hi
    · refine ⟨fun q hq => ?_, fun q i hq hi => ?_⟩
      · dsimp only
        by_cases e : q = p
        · rw [if_pos e, e, pk_us]; rfl
        · rw [if_neg e, pk_un e]; exact hml.1 q hq
      · dsimp only at hi
        split at hi
        · omega
        · exact hml.2 q i hq hi
theorem l_all {l : Nat → Int32} {ln : Nat → Nat} {Q : Int32 → Prop} (hl : ∀ p, p < 18 → l p = nI (ln p)) (h : Q (nI (fb_sm ln 18))) : q0_boxesInAll l Q := by
  unfold q0_boxesInAll
  refine up2 (q0_boxesInAll_4 l Q) (fun j => nI (fb_sm ln j)) (fun j => nI j) 0 18 (Nat.zero_le _) (fun k => ?_) (fun k j _ hj ih => ?_) rfl rfl
  · unfold q0_boxesInAll_4
    exact pk_le 18 18 (fun _ => h) (fun h => by omega)
  · unfold q0_boxesInAll_4
    rw [nI_clamp (by omega), hl j hj, nI_add, nI_1]
    exact pk_le 18 j (fun h => by omega) (fun _ => ⟨pk_in j 18 hj, ih⟩)
theorem m_cnt {n : Nat} {x : Int32} {l : Nat → Int32} {ln : Nat → Nat} {Q : Int32 → Prop} (hn : n ≤ 18) (hl : ∀ p, p < 18 → l p = nI (ln p)) (h : Q (nI (fb_sm ln n))) : ∃ k, q7_count_40 (nI n) x l Q k 0 0 := by
  refine up2 (q7_count_40 (nI n) x l Q) (fun j => nI (fb_sm ln j)) (fun j => nI j) 0 n (Nat.zero_le _) (fun k => ?_) (fun k j _ hj ih => ?_) rfl rfl
  · unfold q7_count_40
    exact pk_le n n (fun _ => h) (fun h => by omega)
  · unfold q7_count_40
    rw [nI_clamp (by omega), hl j (by omega), nI_add, nI_1]
    exact pk_le n j (fun h => by omega) (fun _ => ⟨pk_in j 18 (by omega), ih⟩)
theorem sm_tail {f : Nat → Nat} {n : Nat} : ∀ m, n ≤ m → (∀ p, n ≤ p → p < m → f p = 0) → fb_sm f m = fb_sm f n := by
  intro m
  induction m with
  | zero => intro h _; rw [show n = 0 by omega]
  | succ m ih =>
    intro h hz
    by_cases e : n = m + 1
    · rw [e]
    · rw [fb_sm_succ, hz m (by omega) (by omega), ih (by omega) (fun p a b => hz p a (by omega)), Nat.add_zero]
theorem js_count {G : Nat → Nat → (Nat → Int64) → Prop} : JS_count HJ G := by
  intro h_size h_opened h_tal s0_row s0_made s0_size s1_row s1_made s1_size s2_row s2_made s2_size s3_row s3_made s3_size l_len l_ways l_box w_used w_kind w_size w_left w_last w_top w_wanted c_row c_made c_size t_fac t_der t_rec t_rut t_ris m_n m_order m_shelf m_opens m_lists m_listed m_work m_counts m_older m_products m_part m_parts m_ways m_used m_greaterNow m_countNow a1 hJ
  obtain ⟨n, k, σ, τ, ln, bx, hI, ⟨rfl, rfl, rfl, rfl, rfl, rfl, rfl⟩, hc, hcs, hcl, ht, ⟨rfl, rfl⟩, hmo, hms, hml⟩ := hJ
  have hn := hI.2.1
  have h1n := hI.1
  unfold q6_count q7_count
  have hend : nI k = nI k ∧ JX (nI n) (nI k) (nI n) (nI n) (nI n) (nI n) (nI n) c_row s0_row s1_row s2_row s3_row l_len l_box t_fac t_der t_rec t_rut t_ris (nI n) (nI k) m_order m_shelf m_lists m_listed := ⟨rfl, n, k, σ, τ, ln, bx, hI, ⟨rfl, rfl, rfl, rfl, rfl, rfl, rfl⟩, hc, hcs, hcl, ht, ⟨rfl, rfl⟩, hmo, hms, hml⟩
  refine ⟨fun e0 => ⟨fun _ => ⟨rfl, hend.2⟩, fun h => absurd e0 h⟩, fun e0 => ⟨fun e1 => ⟨fun h => absurd h e0, fun _ => ⟨fun _ => hend, fun h => absurd e1 h⟩⟩, fun e1 => ⟨fun e2 => ?_, fun e2 => ⟨fun h => absurd h e0, fun _ => ⟨fun h => absurd h e1, fun _ => ⟨fun h => absurd h e2, fun _ => ⟨rfl, hend.2⟩⟩⟩⟩⟩⟩⟩
  refine l_all hcl.1 ⟨fun h => absurd h e0, fun _ => ⟨fun h => absurd h e1, fun _ => ⟨fun _ => m_cnt hn hml.1 ⟨?_, hend.2⟩, fun h => absurd e2 h⟩⟩⟩
  rw [sm_tail (f := ln) (n := n) 18 hn hI.2.2.2.2.2.2.1]
theorem l_finds {n : Nat} {l : Nat → Int32} {lb : Nat → Nat → Int32} {bx : Nat → Nat → Nat} {row : Nat → Int32} {σ : Nat → Nat} {p x k : Nat} {Q : Int32 → Prop} (hn : n ≤ 18) (hk : k ≤ n) (hp : p < n) (hl : l p = nI x) (hx : x ≤ n) (hbx : ∀ i, i < x → lb p i = nI (bx p i)) (hlt : ∀ i, i < x → bx p i < n) (hr : Rw n row σ) (hs : In n σ) (h : Q (bI (anB (fun i => decide (σ (bx p i) = p)) (min x k)))) : q0_findsOwnThing l lb row (nI n) (nI p) (nI k) Q := by
  unfold q0_findsOwnThing
  refine l_firstOf (by omega) hl (by omega) (by omega) ?_
  have hlow := fa_first_no (fun i => decide (σ (bx p i) = p)) (min x k)
  have hyes := fa_first_yes (fun i => decide (σ (bx p i) = p)) (min x k)
  have hle := fa_first_le (fun i => decide (σ (bx p i) = p)) (min x k)
  generalize fa_first (fun i => decide (σ (bx p i) = p)) (min x k) = T at hlow hyes hle
  refine up3 (q0_findsOwnThing_11 l lb row (nI n) Q) (fun _ => nI p) (fun _ => nI (min x k)) (fun i => nI i) 0 T (Nat.zero_le _) (fun k2 => ?_) (fun k2 i _ hi ih => ?_) rfl rfl rfl
  · unfold q0_findsOwnThing_11
    refine pk_le (min x k) T (fun g => ?_) (fun g => ⟨pk_in p 18 (by omega), pk_in T 18 (by omega), ?_⟩)
    · rw [anB_no (fun i hi => hlow i (by omega))] at h
      exact h
    · have hy := hyes g
      have hb := hlt T (by omega)
      have := hs _ hb
      rw [nI_clamp (by omega), nI_clamp (by omega), hbx T (by omega)]
      rw [(anB_iff (p := fun i => decide (σ (bx p i) = p)) (min x k)).mpr ⟨T, g, hy⟩] at h
      exact o_follow hn hb (hr _ hb) (pk_ne (σ (bx p T)) p (fun g2 => absurd (by simpa using hy) g2) (fun _ => h))
  · unfold q0_findsOwnThing_11
    have hno := hlow i hi
    have hb := hlt i (by omega)
    have := hs _ hb
    rw [nI_clamp (by omega), nI_clamp (by omega), hbx i (by omega), nI_1]
    exact pk_le (min x k) i (fun g => by omega) (fun g => ⟨pk_in p 18 (by omega), pk_in i 18 (by omega), o_follow hn hb (hr _ hb) (pk_ne (σ (bx p i)) p (fun _ => ih) (fun g2 => absurd g2 (by simpa using hno)))⟩)
theorem m_winsBy {n : Nat} {ml md row : Nat → Int32} {bx : Nat → Nat → Nat} {σ : Nat → Nat} {p x k : Nat} {Q : Int32 → Prop} (hn : n ≤ 18) (hk : k ≤ n) (hp : p < n) (hd : md p = nI x) (hx : x ≤ n) (hbx : ∀ i, i < x → ml (18 * p + i) = nI (bx p i)) (hlt : ∀ i, i < x → bx p i < n) (hr : Rw n row σ) (hs : In n σ) (h : Q (bI (anB (fun i => decide (σ (bx p i) = p)) (min x k)))) : q7_winsBy (nI k) ml md row (nI p) Q := by
  unfold q7_winsBy
  refine up3 (q7_winsBy_5 (nI k) ml md row Q) (fun _ => nI p) (fun i => bI (anB (fun i => decide (σ (bx p i) = p)) i)) (fun i => nI i) 0 (min x k) (Nat.zero_le _) (fun k2 => ?_) (fun k2 i _ hi ih => ?_) rfl rfl rfl
  · unfold q7_winsBy_5
    rw [nI_clamp (n := p) (by omega), hd]
    exact ⟨pk_in p 18 (by omega), pk_le x (min x k) (fun _ => ⟨bI_01 _, h⟩) (fun g => pk_le k (min x k) (fun _ => ⟨bI_01 _, h⟩) (fun g2 => by omega))⟩
  · unfold q7_winsBy_5
    have hb := hlt i (by omega)
    have hsb := hs _ hb
    rw [nI_clamp (n := p) (by omega), hd, ix18, nI_clamp (n := 18 * p + i) (by omega), hbx i (by omega), nI_clamp (by omega), hr _ hb]
    simp only [anB] at ih
    refine ⟨pk_in p 18 (by omega), pk_le x i (fun g => by omega) (fun _ => pk_le k i (fun g => by omega) (fun _ => ⟨fun e => ?_, fun e => ⟨pk_in (18 * p + i) 324 (by omega), pk_in (bx p i) 18 (by omega), pk_ne (σ (bx p i)) p (fun g => ?_) (fun g => ?_)⟩⟩))⟩
    · unfold q7_winsBy_52
      rw [bI_ne0.mp e, Bool.true_or] at ih
      rw [nI_1]
      exact ih
    · unfold q7_winsBy_52
      rw [bI_eq0.mp e, decide_eq_false g] at ih
      rw [nI_1]
      exact ih
    · unfold q7_winsBy_52
      rw [decide_eq_true g, Bool.or_true] at ih
      rw [nI_1]
      exact ih
theorem c_way0 {Q : Int32 → Prop} (h : Q 1) : q6_isWay (nI 0) Q := ⟨fun _ => h, fun g => absurd rfl g⟩
theorem c_way1 {Q : Int32 → Prop} (h : Q 1) : q6_isWay (nI 1) Q := ⟨fun _ => h, fun _ => ⟨fun g => absurd rfl g, fun _ => h⟩⟩
theorem c_wayB {a : Int32} {Q : Int32 → Prop} (hb : a < 0 ∨ nI 2 ≤ a) (h : Q 0) : q6_isWay a Q := by
  have h0 : a ≠ 0 := fun e => by subst e; revert hb; decide
  have h1 : a ≠ 1 := fun e => by subst e; revert hb; decide
  exact ⟨fun g => absurd g h0, fun _ => ⟨fun _ => h, fun g => absurd g h1⟩⟩
theorem js_wins {G : Nat → Nat → (Nat → Int64) → Prop} : JS_wins HJ G := by
  intro h_size h_opened h_tal s0_row s0_made s0_size s1_row s1_made s1_size s2_row s2_made s2_size s3_row s3_made s3_size l_len l_ways l_box w_used w_kind w_size w_left w_last w_top w_wanted c_row c_made c_size t_fac t_der t_rec t_rut t_ris m_n m_order m_shelf m_opens m_lists m_listed m_work m_counts m_older m_products m_part m_parts m_ways m_used m_greaterNow m_countNow a1 a2 hJ
  obtain ⟨n, k, σ, τ, ln, bx, hI, ⟨rfl, rfl, rfl, rfl, rfl, rfl, rfl⟩, hc, hcs, hcl, ht, ⟨rfl, rfl⟩, hmo, hms, hml⟩ := hJ
  have hn := hI.2.1
  have h1n := hI.1
  obtain ⟨-, -, hk, hσ, hτ, hlen, hzero, hbl, hbd⟩ := id hI
  rcases ix a1 (n := 2) (by decide) with hb | ⟨w, hw, rfl⟩
  · exact c_wayB hb (z0 (m_in0 (M := 1) (by decide) hb (z0 ⟨rfl, n, k, σ, τ, ln, bx, hI, ⟨rfl, rfl, rfl, rfl, rfl, rfl, rfl⟩, hc, hcs, hcl, ht, ⟨rfl, rfl⟩, hmo, hms, hml⟩)))
  · have hway : ∀ Q : Int32 → Prop, Q 1 → q6_isWay (nI w) Q := fun Q h => by
      rcases (show w = 0 ∨ w = 1 by omega) with rfl | rfl
      · exact c_way0 h
      · exact c_way1 h
    refine hway _ (z1 ?_)
    rcases ix a2 (n := n) (by omega) with hb | ⟨p, hp, rfl⟩
    · exact c_th0 hb (y0 (m_in1 (M := 1) (by decide) (by omega) (z1 (m_th0 hn h1n hb (y0 ⟨rfl, n, k, σ, τ, ln, bx, hI, ⟨rfl, rfl, rfl, rfl, rfl, rfl, rfl⟩, hc, hcs, hcl, ht, ⟨rfl, rfl⟩, hmo, hms, hml⟩)))))
    · refine c_th1 hn hp (y1 ?_)
      rcases (show w = 0 ∨ w = 1 by omega) with rfl | rfl
      · refine ⟨fun h => absurd rfl h, fun _ => o_roundLength hn hc hσ hp ?_⟩
        have hr := (rl_spec hσ hp).2.1
        refine pk_lt k (rl σ n p) (fun g => ?_) (fun g => ?_)
        · unfold q6_wins_61
          exact z0 (m_in1 (M := 1) (by decide) (by decide) (z1 (m_th1 hn hp (y1 ⟨fun h => absurd rfl h, fun _ => m_roundOf hn hmo hσ hp (pk_lt k (rl σ n p) (fun _ => ⟨rfl, n, k, σ, τ, ln, bx, hI, ⟨rfl, rfl, rfl, rfl, rfl, rfl, rfl⟩, hc, hcs, hcl, ht, ⟨rfl, rfl⟩, hmo, hms, hml⟩) (fun g2 => by omega))⟩))))
        · unfold q6_wins_61
          exact z1 (m_in1 (M := 1) (by decide) (by decide) (z1 (m_th1 hn hp (y1 ⟨fun h => absurd rfl h, fun _ => m_roundOf hn hmo hσ hp (pk_lt k (rl σ n p) (fun g2 => by omega) (fun _ => ⟨rfl, n, k, σ, τ, ln, bx, hI, ⟨rfl, rfl, rfl, rfl, rfl, rfl, rfl⟩, hc, hcs, hcl, ht, ⟨rfl, rfl⟩, hmo, hms, hml⟩))⟩))))
      · refine ⟨fun _ => l_finds (bx := bx) hn hk.2 hp (hcl.1 p (by omega)) (hlen p (by omega)) (fun i hi => hcl.2 p i (by omega) hi) (fun i hi => hbl p i (by omega) hi) hc hσ.1 ?_, fun h => absurd h (by decide)⟩
        unfold q6_wins_61
        refine ⟨fun e => ?_, fun e => ?_⟩
        · exact m_in1 (M := 1) (by decide) (by decide) (z1 (m_th1 hn hp (y1 ⟨fun _ => m_winsBy (bx := bx) hn hk.2 hp (hml.1 p (by omega)) (hlen p (by omega)) (fun i hi => hml.2 p i (by omega) hi) (fun i hi => hbl p i (by omega) hi) hmo hσ.1 ⟨fun _ => ⟨rfl, n, k, σ, τ, ln, bx, hI, ⟨rfl, rfl, rfl, rfl, rfl, rfl, rfl⟩, hc, hcs, hcl, ht, ⟨rfl, rfl⟩, hmo, hms, hml⟩, fun g => absurd e g⟩, fun h => absurd h (by decide)⟩)))
        · exact m_in1 (M := 1) (by decide) (by decide) (z1 (m_th1 hn hp (y1 ⟨fun _ => m_winsBy (bx := bx) hn hk.2 hp (hml.1 p (by omega)) (hlen p (by omega)) (fun i hi => hml.2 p i (by omega) hi) (fun i hi => hbl p i (by omega) hi) hmo hσ.1 ⟨fun g => absurd g e, fun _ => ⟨rfl, n, k, σ, τ, ln, bx, hI, ⟨rfl, rfl, rfl, rfl, rfl, rfl, rfl⟩, hc, hcs, hcl, ht, ⟨rfl, rfl⟩, hmo, hms, hml⟩⟩, fun h => absurd h (by decide)⟩)))
