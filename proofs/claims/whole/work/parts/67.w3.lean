/-! the row that so many of its kind are ahead of -/
def pck (kd n i : Nat) (s : WSt) (A : Nat) : Nat := fa_first (fun x => !s.1 x && decide (A < wtS kd (n - i) s.2.2.2.1 s.2.2.2.2 (rk s.1 x + 1))) n
theorem rk_kth {U : Nat → Bool} {n J : Nat} (h : J < rk U n) : ∃ x, x < n ∧ U x = false ∧ rk U x = J := by
  obtain ⟨x, h1, h2, h3⟩ := fb_ct_kth h
  exact ⟨x, h1, by simpa using h2, h3⟩
theorem pre_ex {f : Nat → Nat} {A : Nat} (h0 : f 0 = 0) : ∀ m, A < f m → ∃ J, J < m ∧ f J ≤ A ∧ A < f (J + 1) := by
  intro m
  induction m with
  | zero => intro h; omega
  | succ m ih =>
    intro h
    by_cases g : A < f m
    · obtain ⟨J, a, b, c⟩ := ih g
      exact ⟨J, by omega, b, c⟩
    · exact ⟨m, by omega, by omega, h⟩
theorem pck_spec {kd n i A : Nat} {s : WSt} (hk : kd = 1 ∨ kd = 2 ∨ kd = 3) (hn : n ≤ 18) (hi : i < n) (h : WInv kd n i s) (hg : kd ≠ 3 → s.2.2.2.1 ≤ n - i) (hA : A < TW kd (n - i) s.2.2.2.1 s.2.2.2.2) : pck kd n i s A < n ∧ s.1 (pck kd n i s A) = false ∧ wtS kd (n - i) s.2.2.2.1 s.2.2.2.2 (rk s.1 (pck kd n i s A)) ≤ A ∧ A < wtS kd (n - i) s.2.2.2.1 s.2.2.2.2 (rk s.1 (pck kd n i s A) + 1) ∧ (∀ y, y < pck kd n i s A → s.1 y = false → wtS kd (n - i) s.2.2.2.1 s.2.2.2.2 (rk s.1 y + 1) ≤ A) := by
  have hw := h.2.2.2.2.2.2.1
  have hrn := h.2.1
  have hA2 : A < wtS kd (n - i) s.2.2.2.1 s.2.2.2.2 (n - i) := by
    by_cases h3 : kd = 3
    · subst h3
      have e := TW_sum (kd := 3) (m := n - i) (g := 0) (w := 0) (Or.inr (Or.inr rfl)) (by omega) (by omega) (by omega) (by omega)
      rw [wtS_3]
      rw [wtS_3] at e
      rw [← e]; exact hA
    · rw [← TW_sum hk (by omega) (by omega) (hg h3) (by omega)]; exact hA
  obtain ⟨J, hJ, hJ1, hJ2⟩ := pre_ex (f := wtS kd (n - i) s.2.2.2.1 s.2.2.2.2) rfl _ hA2
  obtain ⟨x, hx, hu, hr⟩ := rk_kth (U := s.1) (n := n) (J := J) (by omega)
  have hlow := fa_first_no (fun x => !s.1 x && decide (A < wtS kd (n - i) s.2.2.2.1 s.2.2.2.2 (rk s.1 x + 1))) n
  have hyes := fa_first_yes (fun x => !s.1 x && decide (A < wtS kd (n - i) s.2.2.2.1 s.2.2.2.2 (rk s.1 x + 1))) n
  unfold pck
  generalize fa_first (fun x => !s.1 x && decide (A < wtS kd (n - i) s.2.2.2.1 s.2.2.2.2 (rk s.1 x + 1))) n = X at hlow hyes
  have hX : X < n := by
    rcases Nat.lt_or_ge x X with g | g
    · have := hlow x g
      rw [hu, hr, decide_eq_true hJ2] at this
      cases this
    · omega
  have hy := hyes hX
  rw [Bool.and_eq_true, decide_eq_true_iff] at hy
  have hno : ∀ y, y < X → s.1 y = false → wtS kd (n - i) s.2.2.2.1 s.2.2.2.2 (rk s.1 y + 1) ≤ A := fun y hy2 hy3 => by
    have := hlow y hy2
    rw [hy3, show (!false) = true from rfl, Bool.true_and, decide_eq_false_iff_not] at this
    omega
  refine ⟨hX, by simpa using hy.1, ?_, hy.2, hno⟩
  rcases Nat.eq_zero_or_pos (rk s.1 X) with e | e
  · rw [e]; exact Nat.zero_le _
  · obtain ⟨z, hz, hz2, hz3⟩ := rk_kth (U := s.1) (n := X) (J := rk s.1 X - 1) (by omega)
    have := hno z hz hz2
    rw [hz3, show rk s.1 X - 1 + 1 = rk s.1 X by omega] at this
    exact this
def rs (kd n w A : Nat) : Nat → WSt × Nat
  | 0 => (s0S kd n w, A)
  | i + 1 => (nxS kd n i (rs kd n w A i).1 (pck kd n i (rs kd n w A i).1 (rs kd n w A i).2), (rs kd n w A i).2 - wtS kd (n - i) (rs kd n w A i).1.2.2.2.1 (rs kd n w A i).1.2.2.2.2 (rk (rs kd n w A i).1.1 (pck kd n i (rs kd n w A i).1 (rs kd n w A i).2)))
def rx (kd n w A i : Nat) : Nat := pck kd n i (rs kd n w A i).1 (rs kd n w A i).2
theorem need_w {kd m g w j A : Nat} (h1 : wtS kd m g w j ≤ A) (h2 : A < wtS kd m g w (j + 1)) : kd ≠ 3 → (kd = 1 ∨ kd = 2) → m ≤ g + j → 1 ≤ w := by
  intro h3 hk hm
  rcases Nat.eq_zero_or_pos w with e | e
  · subst e
    have : wt kd m g 0 j = 0 := by
      unfold wt
      rcases hk with rfl | rfl
      · rw [if_pos rfl, if_pos hm, if_pos rfl]
      · rw [if_neg (by decide), if_pos rfl, if_pos hm, if_pos rfl]
    have h4 : A < wtS kd m g 0 j + wt kd m g 0 j := h2
    omega
  · exact e
theorem rs_inv {kd n w A : Nat} (hk : kd = 1 ∨ kd = 2 ∨ kd = 3) (hn : n ≤ 18) (hw : w ≤ n) (hA : A < TW kd n (if kd = 1 then n else 0) w) : ∀ i, i ≤ n → WInv kd n i (rs kd n w A i).1 ∧ (i < n ∨ i = n → (i < n → (rs kd n w A i).2 < TW kd (n - i) (rs kd n w A i).1.2.2.2.1 (rs kd n w A i).1.2.2.2.2)) ∧ (rs kd n w A i).2 ≤ A := by
  intro i
  induction i with
  | zero => intro _; exact ⟨WInv_0 hw, fun _ _ => hA, Nat.le_refl _⟩
  | succ i ih =>
    intro hi
    obtain ⟨h1, h2, h3⟩ := ih (by omega)
    have h2 := h2 (Or.inl (by omega)) (by omega)
    have hg : kd ≠ 3 → (rs kd n w A i).1.2.2.2.1 ≤ n - i := fun e => g_le (by omega) h1
    obtain ⟨a, b, c, d, e⟩ := pck_spec hk hn (by omega) h1 hg h2
    have hlt := rk_lt b a
    refine ⟨WInv_s hk h1 a b, fun _ hlt2 => ?_, Nat.le_trans (Nat.sub_le _ _) h3⟩
    have e2 := wt_next (kd := kd) (m := n - i) (g := (rs kd n w A i).1.2.2.2.1) (w := (rs kd n w A i).1.2.2.2.2) (j := rk (rs kd n w A i).1.1 (pck kd n i (rs kd n w A i).1 (rs kd n w A i).2)) hk (by have := h1.2.1; omega) (fun z => need_w c d z (by omega))
    show (rs kd n w A i).2 - _ < TW kd (n - (i + 1)) (ng kd (n - i) _ _) (nw (n - i) _ _ _)
    rw [show n - (i + 1) = n - i - 1 by omega, ← e2]
    have d2 : (rs kd n w A i).2 < wtS kd (n - i) (rs kd n w A i).1.2.2.2.1 (rs kd n w A i).1.2.2.2.2 (rk (rs kd n w A i).1.1 (pck kd n i (rs kd n w A i).1 (rs kd n w A i).2)) + wt kd (n - i) (rs kd n w A i).1.2.2.2.1 (rs kd n w A i).1.2.2.2.2 (rk (rs kd n w A i).1.1 (pck kd n i (rs kd n w A i).1 (rs kd n w A i).2)) := d
    omega
theorem rs_z0 {kd n w A i : Nat} : Z0 kd n i (rs kd n w A i).1 := fun e => by subst e; rfl
theorem rs_used {kd n w A : Nat} : ∀ i p, p < i → (rs kd n w A i).1.1 (rx kd n w A p) = true := by
  intro i
  induction i with
  | zero => intro p h; omega
  | succ i ih =>
    intro p h
    show (if rx kd n w A p = pck kd n i _ _ then true else (rs kd n w A i).1.1 (rx kd n w A p)) = true
    split
    · rfl
    · rename_i g
      by_cases e : p = i
      · subst e; exact absurd rfl g
      · exact ih p (by omega)
theorem rx_spec {kd n w A i : Nat} (hk : kd = 1 ∨ kd = 2 ∨ kd = 3) (hn : n ≤ 18) (hw : w ≤ n) (hA : A < TW kd n (if kd = 1 then n else 0) w) (hi : i < n) : rx kd n w A i < n ∧ (rs kd n w A i).1.1 (rx kd n w A i) = false ∧ wtS kd (n - i) (rs kd n w A i).1.2.2.2.1 (rs kd n w A i).1.2.2.2.2 (rk (rs kd n w A i).1.1 (rx kd n w A i)) ≤ (rs kd n w A i).2 ∧ (rs kd n w A i).2 < wtS kd (n - i) (rs kd n w A i).1.2.2.2.1 (rs kd n w A i).1.2.2.2.2 (rk (rs kd n w A i).1.1 (rx kd n w A i) + 1) ∧ (∀ y, y < rx kd n w A i → (rs kd n w A i).1.1 y = false → wtS kd (n - i) (rs kd n w A i).1.2.2.2.1 (rs kd n w A i).1.2.2.2.2 (rk (rs kd n w A i).1.1 y + 1) ≤ (rs kd n w A i).2) := by
  obtain ⟨h1, h2, -⟩ := rs_inv hk hn hw hA i (by omega)
  exact pck_spec hk hn hi h1 (fun e => g_le (by omega) h1) (h2 (Or.inl hi) hi)
theorem rx_Pm {kd n w A : Nat} (hk : kd = 1 ∨ kd = 2 ∨ kd = 3) (hn : n ≤ 18) (hw : w ≤ n) (hA : A < TW kd n (if kd = 1 then n else 0) w) : Pm n (rx kd n w A) := by
  refine ⟨fun i hi => (rx_spec hk hn hw hA hi).1, fun i j hi hj e => ?_⟩
  rcases Nat.lt_trichotomy i j with g | g | g
  · have h1 := rs_used (kd := kd) (n := n) (w := w) (A := A) j i g
    rw [e, (rx_spec hk hn hw hA hj).2.1] at h1
    cases h1
  · exact g
  · have h1 := rs_used (kd := kd) (n := n) (w := w) (A := A) i j g
    rw [← e, (rx_spec hk hn hw hA hi).2.1] at h1
    cases h1
theorem lN_subN {a b : Nat} (h : b ≤ a) : lN a - lN b = lN (a - b) := lN_sub h
theorem c_writeRow {kd n w A : Nat} {used : Nat → Int32} {left last top wanted : Int32} {row made : Nat → Int32} {t_fac t_der : Nat → Int64} {t_rec t_rut : Nat → Nat → Int64} {t_ris : Nat → Int64} {Q : (Nat → Int32) → Int32 → Int32 → Int32 → Int32 → (Nat → Int32) → (Nat → Int32) → Prop} (ht : TabOK t_fac t_der t_rec t_rut t_ris) (hk : kd = 1 ∨ kd = 2 ∨ kd = 3) (hn : n ≤ 18) (hw : w ≤ n) (hA : A < TW kd n (if kd = 1 then n else 0) w) (hA63 : A < 2 ^ 63) (hc : CW kd n 0 (s0S kd n w) used left last top wanted) (hQ : ∀ used' left' last' top' wanted' made', Rw n made' (rx kd n w A) → Q used' left' last' top' wanted' (fa_fill made' row n) made') : q5_writeRow (kI kd) (nI n) (nI n) t_fac t_rec t_ris used left last top wanted row made (lN A) Q := by
  unfold q5_writeRow
  refine lpI (fun k i (s : (Nat → Int32) × Int32 × Int32 × Int32 × Int32 × (Nat → Int32)) => q5_writeRow_6 (kI kd) (nI n) (nI n) t_fac t_rec t_ris Q k (lN (rs kd n w A i).2) (nI i) s.1 s.2.1 s.2.2.1 s.2.2.2.1 s.2.2.2.2.1 row s.2.2.2.2.2) (fun i s => CW kd n i (rs kd n w A i).1 s.1 s.2.1 s.2.2.1 s.2.2.2.1 s.2.2.2.2.1 ∧ ∀ p, p < i → s.2.2.2.2.2 p = nI (rx kd n w A p)) 0 n (used, left, last, top, wanted, made) (Nat.zero_le _) ⟨hc, fun p hp => by omega⟩ (fun k s hI => ?_) (fun k i s _ hi hI ih => ?_)
  · unfold q5_writeRow_6
    refine pk_le n n (fun _ => ?_) (fun g => by omega)
    unfold q5_writeRow_100
    exact o_keepMade hn (hQ _ _ _ _ _ _ hI.2)
  · obtain ⟨used, left, last, top, wanted, made⟩ := s
    obtain ⟨hcw, hmd⟩ := hI
    dsimp only at hcw hmd ⊢
    unfold q5_writeRow_6
    refine pk_le n i (fun g => by omega) (fun _ => ?_)
    obtain ⟨r1, r2, r3⟩ := rs_inv hk hn hw hA i (by omega)
    obtain ⟨x1, x2, x3, x4, x5⟩ := rx_spec hk hn hw hA hi
    have hrs : (rs kd n w A (i + 1)) = (nxS kd n i (rs kd n w A i).1 (rx kd n w A i), (rs kd n w A i).2 - wtS kd (n - i) (rs kd n w A i).1.2.2.2.1 (rs kd n w A i).1.2.2.2.2 (rk (rs kd n w A i).1.1 (rx kd n w A i))) := rfl
    rw [hrs] at ih
    generalize rx kd n w A i = X at x1 x2 x3 x4 x5 ih hrs
    have hX : (∀ p, p < i + 1 → rx kd n w A p = if p = i then X else rx kd n w A p) := fun p hp => by
      split
      · rename_i e; subst e
        have : rx kd n w A p = pck kd n p (rs kd n w A p).1 (rs kd n w A p).2 := rfl
        exact this.trans (by have h9 := congrArg (fun z : WSt × Nat => z.1.2.2.1) hrs; exact h9)
      · rfl
    generalize rs kd n w A i = S at r1 r2 r3 x2 x3 x4 x5 ih hcw hrs
    obtain ⟨s, A'⟩ := S
    dsimp only at r1 r2 r3 x2 x3 x4 x5 ih hcw ⊢
    have hrn := r1.2.1
    have hwn := r1.2.2.2.2.2.2.1
    have hrX := rk_lt x2 x1
    have key : ∃ k2, (fun k2 (a : Int64) (b c : Int32) => q5_writeRow_21 (kI kd) (nI n) (nI n) t_fac t_rec t_ris (fun v0 v1 v2 v3 v4 v5 v6 v7 v8 => q5_writeRow_6 (kI kd) (nI n) (nI n) t_fac t_rec t_ris Q k v0 v1 v2 v3 v4 v5 v6 v7 v8) Q k2 a (nI i) b c used left last top wanted row made) k2 (lN A') 0 0 := by
      refine up3 (fun k2 (a : Int64) (b c : Int32) => q5_writeRow_21 (kI kd) (nI n) (nI n) t_fac t_rec t_ris (fun v0 v1 v2 v3 v4 v5 v6 v7 v8 => q5_writeRow_6 (kI kd) (nI n) (nI n) t_fac t_rec t_ris Q k v0 v1 v2 v3 v4 v5 v6 v7 v8) Q k2 a (nI i) b c used left last top wanted row made) (fun y => lN (A' - wtS kd (n - i) s.2.2.2.1 s.2.2.2.2 (rk s.1 y))) (fun y => nI (rk s.1 y)) (fun y => nI y) 0 X (Nat.zero_le _) (fun k2 => ?_) (fun k2 y _ hy ih2 => ?_) rfl rfl rfl
      · unfold q5_writeRow_21
        rw [nI_clamp (by omega), hcw.1 X (by omega), x2]
        refine pk_le n X (fun g => by omega) (fun _ => ⟨pk_in X 18 (by omega), fun _ => c_waysWith ht hn hk r1 hcw x1 x2 ?_, fun g => absurd rfl g⟩)
        have hb := wt_lt (kd := kd) (m := n - i) (g := s.2.2.2.1) (w := s.2.2.2.2) (j := rk s.1 X) (by omega) (by omega)
        have x4' : A' < wtS kd (n - i) s.2.2.2.1 s.2.2.2.2 (rk s.1 X) + wt kd (n - i) s.2.2.2.1 s.2.2.2.2 (rk s.1 X) := x4
        refine ⟨fun g => ?_, fun _ => ?_⟩
        · rw [pk_lLE (by omega) (by omega)] at g
          omega
        · unfold q5_writeRow_61
          refine o_makeAt hn hi (c_step hn hk r1 hcw x1 x2 (fun z => need_w x3 x4 z (by omega)) (fun used' left' last' top' wanted' hcw' => ?_))
          unfold q5_writeRow_94
          rw [nI_1]
          refine ih (used', left', last', top', wanted', upd made i (nI X)) ⟨hcw', fun p hp => ?_⟩
          dsimp only
          rw [hX p hp]
          by_cases e : p = i
          · subst e; rw [if_pos rfl, pk_us]
          · rw [if_neg e, pk_un e]; exact hmd p (by omega)
      · unfold q5_writeRow_21
        rw [nI_clamp (by omega), hcw.1 y (by omega)]
        rw [rk_s] at ih2
        refine pk_le n y (fun g => by omega) (fun _ => ⟨pk_in y 18 (by omega), fun g => ?_, fun g => ?_⟩)
        · have hu := bI_eq0.mp g
          refine c_waysWith ht hn hk r1 hcw (by omega) hu ?_
          have h5 := x5 y hy hu
          have h5' : wtS kd (n - i) s.2.2.2.1 s.2.2.2.2 (rk s.1 y) + wt kd (n - i) s.2.2.2.1 s.2.2.2.2 (rk s.1 y) ≤ A' := h5
          rw [hu, if_neg (by decide)] at ih2
          refine ⟨fun _ => ?_, fun g2 => ?_⟩
          · unfold q5_writeRow_88
            rw [nI_1, nI_1, lN_subN (by omega), Nat.sub_sub]
            exact ih2
          · rw [pk_lLE (by omega) (by omega)] at g2
            omega
        · have hu := bI_ne0.mp g
          rw [hu, if_pos rfl] at ih2
          unfold q5_writeRow_88
          rw [nI_1]
          exact ih2
    exact key
theorem m_row {kd n w A : Nat} {mu gn cn : Int32} {row work : Nat → Int32} {pr wy : Nat → Int64} {Q : Int32 → (Nat → Int32) → (Nat → Int32) → (Nat → Int64) → (Nat → Int64) → Int32 → Int32 → Int32 → Prop} (hk : kd = 1 ∨ kd = 2 ∨ kd = 3) (hn : n ≤ 18) (hw : w ≤ n) (hp : ∀ i, i < 19 → pr i = lN (FAC i)) (hwy : ∀ r, r ≤ n → wyO (kT kd) n wy r) (hA : A < TW kd n (if kd = 1 then n else 0) w) (hA63 : A < 2 ^ 63) (hm : MW kd n 0 (s0S kd n w) mu gn cn) (hQ : ∀ mu' gn' cn' work', Rw n work' (rx kd n w A) → Q 1 (fa_fill work' row n) work' pr wy mu' gn' cn') : ∃ k, q7_row_58 (nI n) Q k (kI kd) (lN A) 0 row work pr wy mu gn cn := by
  refine lpI (fun k i (s : Int32 × Int32 × Int32 × (Nat → Int32)) => q7_row_58 (nI n) Q k (kI kd) (lN (rs kd n w A i).2) (nI i) row s.2.2.2 pr wy s.1 s.2.1 s.2.2.1) (fun i s => MW kd n i (rs kd n w A i).1 s.1 s.2.1 s.2.2.1 ∧ ∀ p, p < i → s.2.2.2 p = nI (rx kd n w A p)) 0 n (mu, gn, cn, work) (Nat.zero_le _) ⟨hm, fun p hp => by omega⟩ (fun k s hI => ?_) (fun k i s _ hi hI ih => ?_)
  · unfold q7_row_58
    refine pk_le n n (fun _ => ?_) (fun g => by omega)
    unfold q7_row_146
    exact m_become hn (hQ _ _ _ _ hI.2)
  · obtain ⟨mu, gn, cn, work⟩ := s
    obtain ⟨hmw, hwk⟩ := hI
    dsimp only at hmw hwk ⊢
    unfold q7_row_58
    refine pk_le n i (fun g => by omega) (fun _ => ?_)
    have hz0 := rs_z0 (kd := kd) (n := n) (w := w) (A := A) (i := i)
    obtain ⟨r1, r2, r3⟩ := rs_inv hk hn hw hA i (by omega)
    obtain ⟨x1, x2, x3, x4, x5⟩ := rx_spec hk hn hw hA hi
    have hrs : (rs kd n w A (i + 1)) = (nxS kd n i (rs kd n w A i).1 (rx kd n w A i), (rs kd n w A i).2 - wtS kd (n - i) (rs kd n w A i).1.2.2.2.1 (rs kd n w A i).1.2.2.2.2 (rk (rs kd n w A i).1.1 (rx kd n w A i))) := rfl
    rw [hrs] at ih
    generalize rx kd n w A i = X at x1 x2 x3 x4 x5 ih hrs
    have hX : (∀ p, p < i + 1 → rx kd n w A p = if p = i then X else rx kd n w A p) := fun p hp => by
      split
      · rename_i e; subst e
        have : rx kd n w A p = pck kd n p (rs kd n w A p).1 (rs kd n w A p).2 := rfl
        exact this.trans (by have h9 := congrArg (fun z : WSt × Nat => z.1.2.2.1) hrs; exact h9)
      · rfl
    generalize rs kd n w A i = S at r1 r2 r3 x2 x3 x4 x5 ih hmw hrs hz0
    obtain ⟨s, A'⟩ := S
    dsimp only at r1 r2 r3 x2 x3 x4 x5 ih hmw hz0 ⊢
    have hrn := r1.2.1
    have hwn := r1.2.2.2.2.2.2.1
    have hrX := rk_lt x2 x1
    have key : ∃ k2, (fun k2 (a : Int64) (b : Int32) => q7_row_70 (nI n) (fun v0 v1 v2 v3 v4 v5 v6 v7 v8 v9 => q7_row_58 (nI n) Q k v0 v1 v2 v3 v4 v5 v6 v7 v8 v9) Q k2 (kI kd) a (nI i) b row work pr wy mu gn cn) k2 (lN A') 0 := by
      refine up2 (fun k2 (a : Int64) (b : Int32) => q7_row_70 (nI n) (fun v0 v1 v2 v3 v4 v5 v6 v7 v8 v9 => q7_row_58 (nI n) Q k v0 v1 v2 v3 v4 v5 v6 v7 v8 v9) Q k2 (kI kd) a (nI i) b row work pr wy mu gn cn) (fun j => lN (A' - wtS kd (n - i) s.2.2.2.1 s.2.2.2.2 j)) (fun j => nI j) 0 (rk s.1 X) (Nat.zero_le _) (fun k2 => ?_) (fun k2 j _ hj ih2 => ?_) rfl rfl
      · unfold q7_row_70
        have hb := wt_lt (kd := kd) (m := n - i) (g := s.2.2.2.1) (w := s.2.2.2.2) (j := rk s.1 X) (by omega) (by omega)
        have x4' : A' < wtS kd (n - i) s.2.2.2.1 s.2.2.2.2 (rk s.1 X) + wt kd (n - i) s.2.2.2.1 s.2.2.2.2 (rk s.1 X) := x4
        rw [pk_sub (show i ≤ n by omega)]
        refine pk_le (n - i) (rk s.1 X) (fun g => by omega) (fun _ => m_waysAt hk hn hp hwy r1 hz0 hmw hi (by omega) ⟨fun _ => ?_, fun g => ?_⟩)
        · unfold q7_row_117
          rw [pk_sub (show i ≤ n by omega)]
          refine pk_ne (rk s.1 X) (n - i) (fun _ => ?_) (fun g => by omega)
          refine m_put hk hn r1 hz0 hmw hi x1 x2 (fun z => need_w x3 x4 z (by omega)) (fun mu' gn' cn' hmw' => ?_)
          rw [nI_1]
          refine ih (mu', gn', cn', upd work i (nI X)) ⟨hmw', fun p hp => ?_⟩
          dsimp only
          rw [hX p hp]
          by_cases e : p = i
          · subst e; rw [if_pos rfl, pk_us]
          · rw [if_neg e, pk_un e]; exact hwk p (by omega)
        · rw [pk_lLT (by omega) (by omega)] at g
          omega
      · unfold q7_row_70
        have hmono := wtS_mono kd (n - i) s.2.2.2.1 s.2.2.2.2 (rk s.1 X) (j + 1) (by omega)
        have hst : wtS kd (n - i) s.2.2.2.1 s.2.2.2.2 (j + 1) = wtS kd (n - i) s.2.2.2.1 s.2.2.2.2 j + wt kd (n - i) s.2.2.2.1 s.2.2.2.2 j := rfl
        rw [pk_sub (show i ≤ n by omega)]
        refine pk_le (n - i) j (fun g => by omega) (fun _ => m_waysAt hk hn hp hwy r1 hz0 hmw hi (by omega) ⟨fun g => ?_, fun _ => ?_⟩)
        · rw [pk_lLT (by omega) (by omega)] at g
          omega
        · refine m_waysAt hk hn hp hwy r1 hz0 hmw hi (by omega) ?_
          rw [nI_1, lN_subN (by omega), Nat.sub_sub]
          exact ih2
    exact key
/-- more rows are asked for than there are -/
theorem m_row0 {kd n w A : Nat} {mu gn cn : Int32} {row work : Nat → Int32} {pr wy : Nat → Int64} {Q : Int32 → (Nat → Int32) → (Nat → Int32) → (Nat → Int64) → (Nat → Int64) → Int32 → Int32 → Int32 → Prop} (hk : kd = 1 ∨ kd = 2 ∨ kd = 3) (hn : n ≤ 18) (h1n : 1 ≤ n) (hw : w ≤ n) (hp : ∀ i, i < 19 → pr i = lN (FAC i)) (hwy : ∀ r, r ≤ n → wyO (kT kd) n wy r) (hA : TW kd n (if kd = 1 then n else 0) w ≤ A) (hA63 : A < 2 ^ 63) (hm : MW kd n 0 (s0S kd n w) mu gn cn) (hQ : Q (-1) row work pr wy mu gn cn) : ∃ k, q7_row_58 (nI n) Q k (kI kd) (lN A) 0 row work pr wy mu gn cn := by
  refine ⟨1, ?_⟩
  unfold q7_row_58
  refine pk_le n 0 (fun g => by omega) (fun _ => ?_)
  have h0 := WInv_0 (kd := kd) hw
  have hz0 : Z0 kd n 0 (s0S kd n w) := fun _ => rfl
  rw [TW_sum hk h1n (by omega) (by split <;> omega) (by omega)] at hA
  have hA2 : wtS kd (n - 0) (s0S kd n w).2.2.2.1 (s0S kd n w).2.2.2.2 n ≤ A := hA
  have key : ∃ k2, (fun k2 (a : Int64) (b : Int32) => q7_row_70 (nI n) (fun v0 v1 v2 v3 v4 v5 v6 v7 v8 v9 => q7_row_58 (nI n) Q 0 v0 v1 v2 v3 v4 v5 v6 v7 v8 v9) Q k2 (kI kd) a 0 b row work pr wy mu gn cn) k2 (lN A) 0 := by
    refine up2 (fun k2 (a : Int64) (b : Int32) => q7_row_70 (nI n) (fun v0 v1 v2 v3 v4 v5 v6 v7 v8 v9 => q7_row_58 (nI n) Q 0 v0 v1 v2 v3 v4 v5 v6 v7 v8 v9) Q k2 (kI kd) a 0 b row work pr wy mu gn cn) (fun j => lN (A - wtS kd (n - 0) (s0S kd n w).2.2.2.1 (s0S kd n w).2.2.2.2 j)) (fun j => nI j) 0 n (Nat.zero_le _) (fun k2 => ?_) (fun k2 j _ hj ih2 => ?_) rfl rfl
    · unfold q7_row_70
      rw [Int32.sub_zero]
      refine pk_le n n (fun _ => ?_) (fun g => by omega)
      unfold q7_row_117
      rw [Int32.sub_zero]
      exact ⟨fun g => absurd rfl g, fun _ => hQ⟩
    · unfold q7_row_70
      have hmono := wtS_mono kd (n - 0) (s0S kd n w).2.2.2.1 (s0S kd n w).2.2.2.2 n (j + 1) (by omega)
      have hst : wtS kd (n - 0) (s0S kd n w).2.2.2.1 (s0S kd n w).2.2.2.2 (j + 1) = wtS kd (n - 0) (s0S kd n w).2.2.2.1 (s0S kd n w).2.2.2.2 j + wt kd (n - 0) (s0S kd n w).2.2.2.1 (s0S kd n w).2.2.2.2 j := rfl
      rw [Int32.sub_zero]
      refine pk_le n j (fun g => by omega) (fun _ => m_waysAt (i := 0) hk hn hp hwy h0 hz0 hm (by omega) (by omega) ⟨fun g => ?_, fun _ => ?_⟩)
      · rw [pk_lLT (by omega) (by omega)] at g
        omega
      · refine m_waysAt (i := 0) hk hn hp hwy h0 hz0 hm (by omega) (by omega) ?_
        rw [nI_1, lN_subN (by omega), Nat.sub_sub]
        exact ih2
  exact key
theorem MW_0 {kd n w : Nat} {cn : Int32} (hc : kd ≠ 3 → cn = nI w) : MW kd n 0 (s0S kd n w) 0 0 cn := ⟨⟨0, rfl, by decide, fun y => Nat.zero_testBit y⟩, fun _ h => by omega, hc⟩
theorem kd_ex (a1 : Int32) : (∃ kd, (kd = 1 ∨ kd = 2 ∨ kd = 3) ∧ a1 = kI kd) ∨ (a1 ≠ -1 ∧ a1 ≠ 1 ∧ a1 ≠ 2) := by
  by_cases h1 : a1 = 1
  · exact Or.inl ⟨1, Or.inl rfl, h1⟩
  · by_cases h2 : a1 = 2
    · exact Or.inl ⟨2, Or.inr (Or.inl rfl), h2⟩
    · by_cases h3 : a1 = -1
      · exact Or.inl ⟨3, Or.inr (Or.inr rfl), h3⟩
      · exact Or.inr ⟨h3, h1, h2⟩
theorem c_rk1 {kd : Nat} {Q : Int32 → Prop} (hk : kd = 1 ∨ kd = 2 ∨ kd = 3) (h : Q 1) : q6_isRowKind (kI kd) Q := by
  unfold q6_isRowKind
  exact ⟨fun _ => h, fun _ => ⟨fun _ => h, fun _ => ⟨fun g => by rcases hk with rfl | rfl | rfl <;> first | exact absurd rfl g | (exfalso; revert g; simp_all [kI]), fun _ => h⟩⟩⟩
theorem c_rk0 {a : Int32} {Q : Int32 → Prop} (hk : a ≠ -1 ∧ a ≠ 1 ∧ a ≠ 2) (h : Q 0) : q6_isRowKind a Q := by
  unfold q6_isRowKind
  exact ⟨fun g => absurd g hk.1, fun _ => ⟨fun g => absurd g hk.2.1, fun _ => ⟨fun _ => h, fun g => absurd g hk.2.2⟩⟩⟩
theorem m_rk1 {kd : Nat} {Q : Int32 → Prop} (hk : kd = 1 ∨ kd = 2 ∨ kd = 3) (h : Q 1) : q7_isKind (kI kd) Q := c_rk1 hk h
theorem m_rk0 {a : Int32} {Q : Int32 → Prop} (hk : a ≠ -1 ∧ a ≠ 1 ∧ a ≠ 2) (h : Q 0) : q7_isKind a Q := c_rk0 hk h
theorem kI_m1 {kd : Nat} (hk : kd = 1 ∨ kd = 2 ∨ kd = 3) : kI kd = -1 ↔ kd = 3 := by
  rcases hk with rfl | rfl | rfl <;> decide
/-- how many rows of a kind there are, as the walk tells it at its start -/
theorem c_atStart {kd n w : Nat} {t_fac t_der : Nat → Int64} {t_rec t_rut : Nat → Nat → Int64} {t_ris : Nat → Int64} {a2 : Int32} {Q : Int64 → Prop} (ht : TabOK t_fac t_der t_rec t_rut t_ris) (hk : kd = 1 ∨ kd = 2 ∨ kd = 3) (hn : n ≤ 18) (hw : w ≤ n) (ha : kd ≠ 3 → a2 = nI w) (h : Q (lN (TW kd n (if kd = 1 then n else 0) w))) : q5_waysAtStart (kI kd) (nI n) a2 t_fac t_rec t_ris Q := by
  unfold q5_waysAtStart q5_ways
  rcases hk with rfl | rfl | rfl
  · rw [ha (by decide)]
    exact ⟨fun _ => t_recs ht.2.2.1 (by omega) (by omega) (by omega) h, fun g => absurd rfl g⟩
  · rw [ha (by decide)]
    exact ⟨fun g => absurd g (by decide), fun _ => ⟨fun _ => t_rises (by omega) (by omega) (by omega) (ht.2.2.2.2 n (by omega)) h, fun g => absurd rfl g⟩⟩
  · exact ⟨fun g => absurd g (by decide), fun _ => ⟨fun g => absurd g (by decide), fun _ => t_ordersOf ht.1 (by omega) h⟩⟩
theorem c_atStartB {kd n : Nat} {t_fac t_der : Nat → Int64} {t_rec t_rut : Nat → Nat → Int64} {t_ris : Nat → Int64} {a2 : Int32} {Q : Int64 → Prop} (ht : TabOK t_fac t_der t_rec t_rut t_ris) (hk : kd = 1 ∨ kd = 2) (hn : n ≤ 18) (ha : a2 < 0 ∨ nI (n + 1) ≤ a2) (h : Q 0) : q5_waysAtStart (kI kd) (nI n) a2 t_fac t_rec t_ris Q := by
  unfold q5_waysAtStart q5_ways
  rcases hk with rfl | rfl
  · refine ⟨fun _ => ?_, fun g => absurd rfl g⟩
    by_cases h0 : a2 < 0
    · exact t_recsN (by omega) (Nat.le_refl _) h0 h
    · obtain ⟨v, hv, rfl⟩ := nI_of h0
      have hv2 : n + 1 ≤ v := (nI_leI (by omega) hv).mp (by rcases ha with g | g; exact absurd g h0; exact g)
      refine t_recs ht.2.2.1 (by omega) (by omega) hv ?_
      rw [show RW1 n n v = 0 by unfold RW1; rw [if_pos (Nat.le_refl _)]; exact rcS_z (REC_z (by omega) (by omega)) _]
      exact h
  · refine ⟨fun g => absurd g (by decide), fun _ => ⟨fun _ => ?_, fun g => absurd rfl g⟩⟩
    by_cases h0 : a2 < 0
    · exact t_risesN h0 h
    · obtain ⟨v, hv, rfl⟩ := nI_of h0
      have hv2 : n + 1 ≤ v := (nI_leI (by omega) hv).mp (by rcases ha with g | g; exact absurd g h0; exact g)
      refine t_rises (by omega) (by omega) hv (ht.2.2.2.2 n (by omega)) ?_
      rw [RIS_z (by omega) (Or.inr (by omega))]
      exact h
theorem TW_lt {kd n w : Nat} (hk : kd = 1 ∨ kd = 2 ∨ kd = 3) (hn : n ≤ 18) (hw : w ≤ n) : TW kd n (if kd = 1 then n else 0) w < 2 ^ 63 := by
  rcases hk with rfl | rfl | rfl
  · have := RW1_lt' (r := n) (a := n) (v := w) (by omega) (by omega)
    show RW1 n n w < _
    omega
  · have := RIS_lt' (r := n) (b := n - 0) (v := w) (by omega)
    show RIS n (n - 0) w < _
    omega
  · have := (FAC_lt n (by omega)).2
    show FAC n < _
    omega
theorem js_row {G : Nat → Nat → (Nat → Int64) → Prop} : JS_row HJ G := by
  intro h_size h_opened h_tal s0_row s0_made s0_size s1_row s1_made s1_size s2_row s2_made s2_size s3_row s3_made s3_size l_len l_ways l_box w_used w_kind w_size w_left w_last w_top w_wanted c_row c_made c_size t_fac t_der t_rec t_rut t_ris m_n m_order m_shelf m_opens m_lists m_listed m_work m_counts m_older m_products m_part m_parts m_ways m_used m_greaterNow m_countNow a1 a2 a3 hJ
  obtain ⟨n, k, σ, τ, ln, bx, hI, ⟨rfl, rfl, rfl, rfl, rfl, rfl, rfl⟩, hc, hcs, hcl, ht, ⟨rfl, rfl⟩, hmo, hms, hml⟩ := hJ
  have hn := hI.2.1
  have h1n := hI.1
  unfold q6_row q7_row
  rcases kd_ex a1 with ⟨kd, hk, rfl⟩ | hbad
  · refine c_rk1 hk (z1 ?_)
    by_cases g3 : (0 : Int64) ≤ a3
    · refine ⟨fun _ => ?_, fun h => absurd g3 h⟩
      obtain ⟨A, hA63, rfl⟩ := pk_lOf (x := a3) (fun h => by rw [Int64.lt_iff_toInt_lt] at h; have g4 := Int64.le_iff_toInt_le.mp g3; omega)
      refine c_start (w := 0) hn (fun used' hu => ?_)
      have hgood : ∀ w, w ≤ n → (kd ≠ 3 → a2 = nI w) → q5_waysAtStart (kI kd) (nI n) a2 t_fac t_rec t_ris (fun r12 => (lN A < r12 → q5_writeRow (kI kd) (nI n) (nI n) t_fac t_rec t_ris used' (nI n) (nI n) (-1) a2 c_row c_made (lN A) (fun w_used_14 w_left_15 w_last_16 w_top_17 w_wanted_18 c_row_19 c_made_20 => q7_row (nI n) m_order m_work m_products m_ways m_used m_greaterNow m_countNow (kI kd) a2 (lN A) (fun r2 m_order_2 m_work_2 m_products_2 m_ways_2 m_used_2 m_greaterNow_2 m_countNow_2 => (1 : Int32) = r2 ∧ JX (nI n) (nI k) (nI n) (nI n) (nI n) (nI n) (nI n) c_row_19 s0_row s1_row s2_row s3_row l_len l_box t_fac t_der t_rec t_rut t_ris (nI n) (nI k) m_order_2 m_shelf m_lists m_listed))) ∧ (¬ lN A < r12 → q7_row (nI n) m_order m_work m_products m_ways m_used m_greaterNow m_countNow (kI kd) a2 (lN A) (fun r2 m_order_2 m_work_2 m_products_2 m_ways_2 m_used_2 m_greaterNow_2 m_countNow_2 => (-1 : Int32) = r2 ∧ JX (nI n) (nI k) (nI n) (nI n) (nI n) (nI n) (nI n) c_row s0_row s1_row s2_row s3_row l_len l_box t_fac t_der t_rec t_rut t_ris (nI n) (nI k) m_order_2 m_shelf m_lists m_listed))) := fun w hw hwa => by
        refine c_atStart ht hk hn hw hwa ?_
        rw [pk_lLT hA63 (TW_lt hk hn hw)]
        have hrow : ∀ (Q : Int32 → (Nat → Int32) → (Nat → Int32) → (Nat → Int64) → (Nat → Int64) → Int32 → Int32 → Int32 → Prop), (∀ pr wy cn, (∀ i, i < 19 → pr i = lN (FAC i)) → (∀ r, r ≤ n → wyO (kT kd) n wy r) → (kd ≠ 3 → cn = nI w) → ∃ k, q7_row_58 (nI n) Q k (kI kd) (lN A) 0 m_order m_work pr wy 0 0 cn) → q7_row (nI n) m_order m_work m_products m_ways m_used m_greaterNow m_countNow (kI kd) a2 (lN A) Q := fun Q hq => by
          unfold q7_row
          refine m_rk1 hk (z1 ⟨fun _ => ?_, fun h => absurd g3 h⟩)
          have h37 : q7_row_37 (nI n) Q (kI kd) a2 (lN A) m_order m_work m_products m_ways m_used m_greaterNow m_countNow := by
            unfold q7_row_37 q7_row_49
            exact ⟨fun g => m_beginRow hk hn (fun pr' wy' hp hw2 => hq pr' wy' a2 hp hw2 hwa), fun g => m_beginRow hk hn (fun pr' wy' hp hw2 => hq pr' wy' 0 hp hw2 (fun e => absurd ((kI_m1 hk).mp g) e))⟩
          refine ⟨fun _ => h37, fun g => ?_⟩
          have h3 : kd ≠ 3 := fun e => g ((kI_m1 hk).mpr e)
          rw [hwa h3] at h37 ⊢
          exact m_in1 (by omega) hw (y1 h37)
        refine ⟨fun g => ?_, fun g => ?_⟩
        · refine c_writeRow ht hk hn hw g hA63 (CW_0 hu hwa) (fun u1 u2 u3 u4 u5 made' hmd => hrow _ (fun pr wy cn hp hwy hcn => m_row hk hn hw hp hwy g hA63 (MW_0 hcn) (fun mu' gn' cn' work' hwk => ⟨rfl, n, k, rx kd n w A, τ, ln, bx, hI.row (rx_Pm hk hn hw g), ⟨rfl, rfl, rfl, rfl, rfl, rfl, rfl⟩, fill_Rw hmd, hcs, hcl, ht, ⟨rfl, rfl⟩, fill_Rw hwk, hms, hml⟩)))
        · exact hrow _ (fun pr wy cn hp hwy hcn => m_row0 hk hn h1n hw hp hwy (by omega) hA63 (MW_0 hcn) ⟨rfl, n, k, σ, τ, ln, bx, hI, ⟨rfl, rfl, rfl, rfl, rfl, rfl, rfl⟩, hc, hcs, hcl, ht, ⟨rfl, rfl⟩, hmo, hms, hml⟩)
      by_cases h3 : kd = 3
      · exact hgood 0 (Nat.zero_le _) (fun e => absurd h3 e)
      · rcases ix a2 (n := n + 1) (by omega) with hb | ⟨w, hw, rfl⟩
        · refine c_atStartB ht (by omega) hn hb ⟨fun g => ?_, fun _ => ?_⟩
          · rw [Int64.lt_iff_toInt_lt, pk_lT hA63] at g
            have : (0 : Int64).toInt = 0 := rfl
            omega
          · refine m_rk1 hk (z1 ⟨fun _ => ⟨fun g => absurd ((kI_m1 hk).mp g) h3, fun _ => m_in0 (by omega) hb (y0 ⟨rfl, n, k, σ, τ, ln, bx, hI, ⟨rfl, rfl, rfl, rfl, rfl, rfl, rfl⟩, hc, hcs, hcl, ht, ⟨rfl, rfl⟩, hmo, hms, hml⟩)⟩, fun h => absurd g3 h⟩)
        · exact hgood w (by omega) (fun _ => rfl)
    · exact ⟨fun h => absurd h g3, fun _ => m_rk1 hk (z1 ⟨fun h => absurd h g3, fun _ => ⟨rfl, n, k, σ, τ, ln, bx, hI, ⟨rfl, rfl, rfl, rfl, rfl, rfl, rfl⟩, hc, hcs, hcl, ht, ⟨rfl, rfl⟩, hmo, hms, hml⟩⟩)⟩
  · exact c_rk0 hbad (z0 (m_rk0 hbad (z0 ⟨rfl, n, k, σ, τ, ln, bx, hI, ⟨rfl, rfl, rfl, rfl, rfl, rfl, rfl⟩, hc, hcs, hcl, ht, ⟨rfl, rfl⟩, hmo, hms, hml⟩)))
