/-! how many rows of the kind are ahead -/
def ps (kd n : Nat) (σ : Nat → Nat) (w : Nat) : Nat → WSt
  | 0 => s0S kd n w
  | i + 1 => nxS kd n i (ps kd n σ w i) (σ i)
def psS (kd n : Nat) (σ : Nat → Nat) (w : Nat) : Nat → Nat
  | 0 => 0
  | i + 1 => psS kd n σ w i + wtS kd (n - i) (ps kd n σ w i).2.2.2.1 (ps kd n σ w i).2.2.2.2 (rk (ps kd n σ w i).1 (σ i))
def risB (σ : Nat → Nat) (i : Nat) : Bool := decide (σ i < σ (i + 1))
def w0P (kd n : Nat) (σ : Nat → Nat) : Nat := if kd = 1 then fb_ct (recB σ) n else if kd = 2 then fb_ct (risB σ) (n - 1) else 0
theorem w0P_le {kd n : Nat} {σ : Nat → Nat} : w0P kd n σ ≤ n := by
  unfold w0P
  split
  · exact fb_ct_le _ _
  · split
    · have := fb_ct_le (risB σ) (n - 1); omega
    · omega
theorem ps_inv {kd n : Nat} {σ : Nat → Nat} (hk : kd = 1 ∨ kd = 2 ∨ kd = 3) (hs : Pm n σ) : ∀ i, i ≤ n → WInv kd n i (ps kd n σ (w0P kd n σ) i) ∧ (∀ y, (ps kd n σ (w0P kd n σ) i).1 y = true ↔ ∃ p, p < i ∧ σ p = y) ∧ (ps kd n σ (w0P kd n σ) i).2.1 = (if i = 0 then 0 else pmx σ i + 1) ∧ (ps kd n σ (w0P kd n σ) i).2.2.1 = (if i = 0 then n else σ (i - 1)) ∧ (kd = 1 → (ps kd n σ (w0P kd n σ) i).2.2.2.2 + fb_ct (recB σ) i = fb_ct (recB σ) n) ∧ (kd = 2 → (ps kd n σ (w0P kd n σ) i).2.2.2.2 + fb_ct (risB σ) (i - 1) = fb_ct (risB σ) (n - 1)) := by
  intro i
  induction i with
  | zero =>
    intro _
    refine ⟨WInv_0 w0P_le, fun y => ⟨fun h => absurd h (show ¬ (false = true) by decide), fun ⟨p, h, _⟩ => absurd h (by omega)⟩, rfl, rfl, fun e => ?_, fun e => ?_⟩
    · show w0P kd n σ + 0 = _
      unfold w0P; rw [if_pos e]; rfl
    · show w0P kd n σ + 0 = _
      unfold w0P; rw [if_neg (by omega), if_pos e]; rfl
  | succ i ih =>
    intro hi
    obtain ⟨h1, h2, h3, h4, h5, h6⟩ := ih (by omega)
    have hx := hs.1 i (by omega)
    have hu : (ps kd n σ (w0P kd n σ) i).1 (σ i) = false := by
      cases e : (ps kd n σ (w0P kd n σ) i).1 (σ i)
      · rfl
      · obtain ⟨p, hp, e2⟩ := (h2 (σ i)).mp e
        have := hs.2 p i (by omega) (by omega) e2
        omega
    refine ⟨WInv_s hk h1 hx hu, fun y => ?_, ?_, ?_, fun e => ?_, fun e => ?_⟩
    · show (if y = σ i then true else (ps kd n σ (w0P kd n σ) i).1 y) = true ↔ _
      by_cases e : y = σ i
      · rw [if_pos e]; exact ⟨fun _ => ⟨i, by omega, e.symm⟩, fun _ => rfl⟩
      · rw [if_neg e, h2]
        constructor
        · rintro ⟨p, hp, e2⟩; exact ⟨p, by omega, e2⟩
        · rintro ⟨p, hp, e2⟩
          by_cases e3 : p = i
          · subst e3; exact absurd e2.symm e
          · exact ⟨p, by omega, e2⟩
    · show max (ps kd n σ (w0P kd n σ) i).2.1 (σ i + 1) = max (pmx σ i) (σ i) + 1
      rw [h3]
      by_cases e : i = 0
      · subst e; rw [if_pos rfl]; show max 0 (σ 0 + 1) = max 0 (σ 0) + 1; omega
      · rw [if_neg e]; omega
    · rfl
    · subst e
      have is := (is_1 h1 hx hu).1
      show nw (n - i) _ _ _ + fb_ct (recB σ) (i + 1) = _
      rw [fb_ct_succ]
      have h5 := h5 rfl
      have hm := fb_ct_mono (recB σ) (show i + 1 ≤ n by omega)
      rw [fb_ct_succ] at hm
      have hrec : recB σ i = true ↔ (ps 1 n σ (w0P 1 n σ) i).2.1 ≤ σ i := by
        unfold recB
        rw [decide_eq_true_iff, h3]
        by_cases e : i = 0
        · rw [if_pos e]; exact ⟨fun _ => Nat.zero_le _, fun _ => Or.inl e⟩
        · rw [if_neg e]; omega
      unfold nw
      by_cases g : recB σ i = true
      · rw [if_pos g] at hm ⊢
        rw [if_pos (is.mpr (hrec.mp g))]
        omega
      · rw [if_neg g] at hm ⊢
        rw [if_neg (fun z => g (hrec.mpr (is.mp z)))]
        omega
    · subst e
      have is := (is_2 h1 hx hu).1
      show nw (n - i) _ _ _ + fb_ct (risB σ) i = _
      have h6 := h6 rfl
      unfold nw
      by_cases e : i = 0
      · subst e
        rw [if_neg (fun z => by have := is.mp z; rw [h4, if_pos rfl] at this; omega)]
        exact h6
      · obtain ⟨q, rfl⟩ : ∃ q, i = q + 1 := ⟨i - 1, by omega⟩
        rw [Nat.add_sub_cancel] at h6
        rw [h4, if_neg e, Nat.add_sub_cancel] at is
        have hm := fb_ct_mono (risB σ) (show q + 1 ≤ n - 1 by omega)
        rw [fb_ct_succ] at hm ⊢
        by_cases g : σ q < σ (q + 1)
        · rw [if_pos (show risB σ q = true from decide_eq_true g)] at hm ⊢
          rw [if_pos (is.mpr g)]
          omega
        · rw [if_neg (show ¬ risB σ q = true by unfold risB; simpa using g)] at hm ⊢
          rw [if_neg (fun z => g (is.mp z))]
          omega
theorem ps_hw {kd n i : Nat} {σ : Nat → Nat} (hk : kd = 1 ∨ kd = 2 ∨ kd = 3) (hs : Pm n σ) (hi : i < n) : (ps kd n σ (w0P kd n σ) i).1 (σ i) = false ∧ (kd ≠ 3 → n - i ≤ (ps kd n σ (w0P kd n σ) i).2.2.2.1 + rk (ps kd n σ (w0P kd n σ) i).1 (σ i) → 1 ≤ (ps kd n σ (w0P kd n σ) i).2.2.2.2) := by
  obtain ⟨h1, h2, h3, h4, h5, h6⟩ := ps_inv hk hs i (by omega)
  have hx := hs.1 i hi
  have hu : (ps kd n σ (w0P kd n σ) i).1 (σ i) = false := by
    cases e : (ps kd n σ (w0P kd n σ) i).1 (σ i)
    · rfl
    · obtain ⟨p, hp, e2⟩ := (h2 (σ i)).mp e
      have := hs.2 p i (by omega) (by omega) e2
      omega
  refine ⟨hu, fun hk3 hle => ?_⟩
  rcases hk with rfl | rfl | rfl
  · have is := (is_1 h1 hx hu).1.mp hle
    have h5 := h5 rfl
    have hm := fb_ct_mono (recB σ) (show i + 1 ≤ n by omega)
    rw [fb_ct_succ, if_pos (show recB σ i = true by unfold recB; rw [decide_eq_true_iff]; rw [h3] at is; split at is <;> omega)] at hm
    omega
  · have is := (is_2 h1 hx hu).1.mp hle
    have h6 := h6 rfl
    rw [h4] at is
    by_cases e : i = 0
    · subst e; rw [if_pos rfl] at is; omega
    · obtain ⟨q, rfl⟩ : ∃ q, i = q + 1 := ⟨i - 1, by omega⟩
      rw [if_neg e, Nat.add_sub_cancel] at is
      have hm := fb_ct_mono (risB σ) (show q + 1 ≤ n - 1 by omega)
      rw [fb_ct_succ, if_pos (show risB σ q = true from decide_eq_true is)] at hm
      rw [Nat.add_sub_cancel] at h6
      omega
  · exact absurd rfl hk3
theorem ps_z0 {kd n w i : Nat} {σ : Nat → Nat} : Z0 kd n i (ps kd n σ w i) := fun e => by subst e; rfl
theorem c_ahead {kd n : Nat} {σ : Nat → Nat} {used : Nat → Int32} {left last top wanted : Int32} {row : Nat → Int32} {t_fac t_der : Nat → Int64} {t_rec t_rut : Nat → Nat → Int64} {t_ris : Nat → Int64} {Q : Int64 → (Nat → Int32) → Int32 → Int32 → Int32 → Int32 → Prop} (ht : TabOK t_fac t_der t_rec t_rut t_ris) (hk : kd = 1 ∨ kd = 2 ∨ kd = 3) (hn : n ≤ 18) (hr : Rw n row σ) (hs : Pm n σ) (hc : CW kd n 0 (s0S kd n (w0P kd n σ)) used left last top wanted) (hQ : ∀ used' left' last' top' wanted', Q (lN (psS kd n σ (w0P kd n σ) n)) used' left' last' top' wanted') : q5_rowsAheadOf (kI kd) (nI n) row (nI n) t_fac t_rec t_ris used left last top wanted Q := by
  unfold q5_rowsAheadOf
  refine lpI (fun k i (s : (Nat → Int32) × Int32 × Int32 × Int32 × Int32) => q5_rowsAheadOf_5 (kI kd) (nI n) row (nI n) t_fac t_rec t_ris Q k (lN (psS kd n σ (w0P kd n σ) i)) (nI i) s.1 s.2.1 s.2.2.1 s.2.2.2.1 s.2.2.2.2) (fun i s => CW kd n i (ps kd n σ (w0P kd n σ) i) s.1 s.2.1 s.2.2.1 s.2.2.2.1 s.2.2.2.2) 0 n (used, left, last, top, wanted) (Nat.zero_le _) hc (fun k s hI => ?_) (fun k i s _ hi hcw ih => ?_)
  · unfold q5_rowsAheadOf_5
    exact pk_le n n (fun _ => hQ _ _ _ _ _) (fun g => by omega)
  · obtain ⟨used, left, last, top, wanted⟩ := s
    dsimp only at hcw ⊢
    unfold q5_rowsAheadOf_5
    have r1 := (ps_inv hk hs i (by omega)).1
    obtain ⟨x2, xw⟩ := ps_hw hk hs hi
    have x1 := hs.1 i hi
    refine pk_le n i (fun g => by omega) (fun _ => o_follow hn hi (hr i hi) ?_)
    have ih : ∀ (s' : (Nat → Int32) × Int32 × Int32 × Int32 × Int32), CW kd n (i + 1) (nxS kd n i (ps kd n σ (w0P kd n σ) i) (σ i)) s'.1 s'.2.1 s'.2.2.1 s'.2.2.2.1 s'.2.2.2.2 → q5_rowsAheadOf_5 (kI kd) (nI n) row (nI n) t_fac t_rec t_ris Q k (lN (psS kd n σ (w0P kd n σ) i + wtS kd (n - i) (ps kd n σ (w0P kd n σ) i).2.2.2.1 (ps kd n σ (w0P kd n σ) i).2.2.2.2 (rk (ps kd n σ (w0P kd n σ) i).1 (σ i)))) (nI (i + 1)) s'.1 s'.2.1 s'.2.2.1 s'.2.2.2.1 s'.2.2.2.2 := ih
    generalize ps kd n σ (w0P kd n σ) i = s at r1 x2 xw ih hcw
    generalize psS kd n σ (w0P kd n σ) i = P at ih ⊢
    have hwn := r1.2.2.2.2.2.2.1
    have key : ∃ k2, (fun k2 (a : Int64) (b c : Int32) => q5_rowsAheadOf_28 (kI kd) (nI n) row (nI n) t_fac t_rec t_ris (fun v0 v1 v2 v3 v4 v5 v6 => q5_rowsAheadOf_5 (kI kd) (nI n) row (nI n) t_fac t_rec t_ris Q k v0 v1 v2 v3 v4 v5 v6) Q k2 a (nI i) (nI (σ i)) b c used left last top wanted) k2 (lN P) 0 0 := by
      refine up3 (fun k2 (a : Int64) (b c : Int32) => q5_rowsAheadOf_28 (kI kd) (nI n) row (nI n) t_fac t_rec t_ris (fun v0 v1 v2 v3 v4 v5 v6 => q5_rowsAheadOf_5 (kI kd) (nI n) row (nI n) t_fac t_rec t_ris Q k v0 v1 v2 v3 v4 v5 v6) Q k2 a (nI i) (nI (σ i)) b c used left last top wanted) (fun y => lN (P + wtS kd (n - i) s.2.2.2.1 s.2.2.2.2 (rk s.1 y))) (fun y => nI (rk s.1 y)) (fun y => nI y) 0 (σ i) (Nat.zero_le _) (fun k2 => ?_) (fun k2 y _ hy ih2 => ?_) rfl rfl rfl
      · unfold q5_rowsAheadOf_28
        refine pk_le (σ i) (σ i) (fun _ => ?_) (fun g => by omega)
        unfold q5_rowsAheadOf_74
        refine c_step hn hk r1 hcw x1 x2 xw (fun used' left' last' top' wanted' hcw' => ?_)
        rw [nI_1]
        exact ih (used', left', last', top', wanted') hcw'
      · unfold q5_rowsAheadOf_28
        rw [nI_clamp (n := y) (by omega), hcw.1 y (by omega)]
        rw [rk_s] at ih2
        refine pk_le (σ i) y (fun g => by omega) (fun _ => pk_le n y (fun g => by omega) (fun _ => ⟨pk_in y 18 (by omega), fun g => ?_, fun g => ?_⟩))
        · have hu := bI_ne0.mp g
          rw [hu, if_pos rfl] at ih2
          unfold q5_rowsAheadOf_68
          rw [nI_1]
          exact ih2
        · have hu := bI_eq0.mp g
          refine c_waysWith ht hn hk r1 hcw (by omega) hu ?_
          rw [hu, if_neg (by decide)] at ih2
          unfold q5_rowsAheadOf_68
          rw [nI_1, nI_1, lN_add, Nat.add_assoc]
          exact ih2
    exact key
theorem m_place {kd n : Nat} {σ : Nat → Nat} {mu gn cn : Int32} {row work : Nat → Int32} {pr wy : Nat → Int64} {Q : Int64 → (Nat → Int32) → (Nat → Int64) → (Nat → Int64) → Int32 → Int32 → Int32 → Prop} (hk : kd = 1 ∨ kd = 2 ∨ kd = 3) (hn : n ≤ 18) (hp : ∀ i, i < 19 → pr i = lN (FAC i)) (hwy : ∀ r, r ≤ n → wyO (kT kd) n wy r) (hr : Rw n row σ) (hs : Pm n σ) (hm : MW kd n 0 (s0S kd n (w0P kd n σ)) mu gn cn) (hQ : ∀ mu' gn' cn' work', Q (lN (psS kd n σ (w0P kd n σ) n)) work' pr wy mu' gn' cn') : ∃ k, q7_place_35 (nI n) row Q k (kI kd) 0 0 work pr wy mu gn cn := by
  refine lpI (fun k i (s : Int32 × Int32 × Int32 × (Nat → Int32)) => q7_place_35 (nI n) row Q k (kI kd) (lN (psS kd n σ (w0P kd n σ) i)) (nI i) s.2.2.2 pr wy s.1 s.2.1 s.2.2.1) (fun i s => MW kd n i (ps kd n σ (w0P kd n σ) i) s.1 s.2.1 s.2.2.1) 0 n (mu, gn, cn, work) (Nat.zero_le _) hm (fun k s hI => ?_) (fun k i s _ hi hmw ih => ?_)
  · unfold q7_place_35
    exact pk_le n n (fun _ => hQ _ _ _ _) (fun g => by omega)
  · obtain ⟨mu, gn, cn, work⟩ := s
    dsimp only at hmw ⊢
    unfold q7_place_35
    have r1 := (ps_inv hk hs i (by omega)).1
    have hz0 := ps_z0 (kd := kd) (n := n) (w := w0P kd n σ) (i := i) (σ := σ)
    obtain ⟨x2, xw⟩ := ps_hw hk hs hi
    have x1 := hs.1 i hi
    refine pk_le n i (fun g => by omega) (fun _ => ?_)
    have ih : ∀ (s' : Int32 × Int32 × Int32 × (Nat → Int32)), MW kd n (i + 1) (nxS kd n i (ps kd n σ (w0P kd n σ) i) (σ i)) s'.1 s'.2.1 s'.2.2.1 → q7_place_35 (nI n) row Q k (kI kd) (lN (psS kd n σ (w0P kd n σ) i + wtS kd (n - i) (ps kd n σ (w0P kd n σ) i).2.2.2.1 (ps kd n σ (w0P kd n σ) i).2.2.2.2 (rk (ps kd n σ (w0P kd n σ) i).1 (σ i)))) (nI (i + 1)) s'.2.2.2 pr wy s'.1 s'.2.1 s'.2.2.1 := ih
    generalize ps kd n σ (w0P kd n σ) i = s at r1 x2 xw ih hmw hz0
    generalize psS kd n σ (w0P kd n σ) i = P at ih ⊢
    have hrn := r1.2.1
    have hrX := rk_lt x2 x1
    obtain ⟨⟨msk, emu, hm1, hm2⟩, -, -⟩ := id hmw
    have key : ∃ k2, (fun k2 (b c : Int32) => q7_place_50 (nI n) row (fun v0 v1 v2 v3 v4 v5 v6 v7 v8 => q7_place_35 (nI n) row Q k v0 v1 v2 v3 v4 v5 v6 v7 v8) Q k2 (kI kd) (lN P) (nI i) b c work pr wy mu gn cn) k2 0 0 := by
      refine up2 (fun k2 (b c : Int32) => q7_place_50 (nI n) row (fun v0 v1 v2 v3 v4 v5 v6 v7 v8 => q7_place_35 (nI n) row Q k v0 v1 v2 v3 v4 v5 v6 v7 v8) Q k2 (kI kd) (lN P) (nI i) b c work pr wy mu gn cn) (fun y => nI (rk s.1 y)) (fun y => nI y) 0 (σ i) (Nat.zero_le _) (fun k2 => ?_) (fun k2 y _ hy ih2 => ?_) rfl rfl
      · unfold q7_place_50
        rw [nI_clamp (by omega), hr i hi]
        refine ⟨pk_in i 18 (by omega), pk_le (σ i) (σ i) (fun _ => ?_) (fun g => by omega)⟩
        unfold q7_place_90
        have key2 : ∃ k3, (fun k3 (a : Int64) (b : Int32) => q7_place_93 (nI n) row (fun v0 v1 v2 v3 v4 v5 v6 v7 v8 => q7_place_35 (nI n) row Q k v0 v1 v2 v3 v4 v5 v6 v7 v8) Q k3 (kI kd) a (nI i) (nI (rk s.1 (σ i))) b work pr wy mu gn cn) k3 (lN P) 0 := by
          refine up2 (fun k3 (a : Int64) (b : Int32) => q7_place_93 (nI n) row (fun v0 v1 v2 v3 v4 v5 v6 v7 v8 => q7_place_35 (nI n) row Q k v0 v1 v2 v3 v4 v5 v6 v7 v8) Q k3 (kI kd) a (nI i) (nI (rk s.1 (σ i))) b work pr wy mu gn cn) (fun j => lN (P + wtS kd (n - i) s.2.2.2.1 s.2.2.2.2 j)) (fun j => nI j) 0 (rk s.1 (σ i)) (Nat.zero_le _) (fun k3 => ?_) (fun k3 j _ hj ih3 => ?_) rfl rfl
          · unfold q7_place_93
            refine pk_le (rk s.1 (σ i)) (rk s.1 (σ i)) (fun _ => ?_) (fun g => by omega)
            unfold q7_place_118
            refine m_put hk hn r1 hz0 hmw hi x1 x2 xw (fun mu' gn' cn' hmw' => ?_)
            rw [nI_1]
            exact ih (mu', gn', cn', upd work i (nI (σ i))) hmw'
          · unfold q7_place_93
            refine pk_le (rk s.1 (σ i)) j (fun g => by omega) (fun _ => m_waysAt hk hn hp hwy r1 hz0 hmw hi (by omega) ?_)
            rw [nI_1, lN_add, Nat.add_assoc]
            exact ih3
        exact key2
      · unfold q7_place_50
        rw [nI_clamp (by omega), hr i hi, emu, bitI hm1 (by omega), hm2 y]
        rw [rk_s, emu] at ih2
        refine ⟨pk_in i 18 (by omega), pk_le (σ i) y (fun g => by omega) (fun _ => ⟨fun g => ?_, fun g => ?_⟩)⟩
        · have hu := bI_ne0.mp g
          rw [hu, if_pos rfl] at ih2
          unfold q7_place_81
          rw [nI_1, Int32.add_zero]
          exact ih2
        · have hu := bI_eq0.mp g
          rw [hu, if_neg (by decide)] at ih2
          unfold q7_place_81
          rw [nI_1, nI_1]
          exact ih2
    exact key
theorem w0P_num {kd n : Nat} {σ : Nat → Nat} (hk : kd = 1 ∨ kd = 2) : w0P kd n σ = num σ n kd := by
  rcases hk with rfl | rfl <;> rfl
theorem kI_nI {kd : Nat} (hk : kd = 1 ∨ kd = 2) : kI kd = nI kd := by
  rcases hk with rfl | rfl <;> rfl
theorem js_place {G : Nat → Nat → (Nat → Int64) → Prop} : JS_place HJ G := by
  intro h_size h_opened h_tal s0_row s0_made s0_size s1_row s1_made s1_size s2_row s2_made s2_size s3_row s3_made s3_size l_len l_ways l_box w_used w_kind w_size w_left w_last w_top w_wanted c_row c_made c_size t_fac t_der t_rec t_rut t_ris m_n m_order m_shelf m_opens m_lists m_listed m_work m_counts m_older m_products m_part m_parts m_ways m_used m_greaterNow m_countNow a1 hJ
  obtain ⟨n, k, σ, τ, ln, bx, hI, ⟨rfl, rfl, rfl, rfl, rfl, rfl, rfl⟩, hc, hcs, hcl, ht, ⟨rfl, rfl⟩, hmo, hms, hml⟩ := hJ
  have hn := hI.2.1
  have h1n := hI.1
  have hσ := hI.2.2.2.1
  unfold q6_place
  rcases kd_ex a1 with ⟨kd, hk, rfl⟩ | hbad
  · refine c_rk1 hk (y1 ?_)
    have hfin : ∀ (wv : Int32) (made' : Nat → Int32), (kd ≠ 3 → wv = nI (w0P kd n σ)) → (∀ Q : Int32 → (Nat → Int32) → Prop, kd ≠ 3 → (∀ work', Q wv work') → q7_numberOf (nI n) m_order m_work (kI kd) Q) → (kd = 3 → wv = 0) → q6_place_37 (nI n) c_row (nI n) t_fac t_rec t_ris (fun r1 w_used_1 w_kind_1 w_size_1 w_left_1 w_last_1 w_top_1 w_wanted_1 c_made_1 => q7_place (nI n) m_order m_work m_products m_ways m_used m_greaterNow m_countNow (kI kd) (fun r2 m_work_2 m_products_2 m_ways_2 m_used_2 m_greaterNow_2 m_countNow_2 => r1 = r2 ∧ HJ (nI n) (nI k) s0_row s0_made (nI n) s1_row s1_made (nI n) s2_row s2_made (nI n) s3_row s3_made (nI n) l_len l_ways l_box w_used_1 w_kind_1 w_size_1 w_left_1 w_last_1 w_top_1 w_wanted_1 c_row c_made_1 (nI n) t_fac t_der t_rec t_rut t_ris (nI n) m_order m_shelf (nI k) m_lists m_listed m_work_2 m_counts m_older m_products_2 m_part m_parts m_ways_2 m_used_2 m_greaterNow_2 m_countNow_2)) (kI kd) (nI n) wv w_used w_kind w_size w_left w_last w_top w_wanted made' := fun wv made' hwv hnum h30 => by
      unfold q6_place_37
      refine c_start (w := 0) hn (fun used' hu => ?_)
      refine c_ahead ht hk hn hc hσ (CW_0 hu hwv) (fun u1 u2 u3 u4 u5 => ?_)
      unfold q7_place
      refine m_rk1 hk (y1 ?_)
      have h27 : ∀ work', q7_place_27 (nI n) m_order (fun r2 m_work_2 m_products_2 m_ways_2 m_used_2 m_greaterNow_2 m_countNow_2 => lN (psS kd n σ (w0P kd n σ) n) = r2 ∧ HJ (nI n) (nI k) s0_row s0_made (nI n) s1_row s1_made (nI n) s2_row s2_made (nI n) s3_row s3_made (nI n) l_len l_ways l_box u1 (kI kd) (nI n) u2 u3 u4 u5 c_row made' (nI n) t_fac t_der t_rec t_rut t_ris (nI n) m_order m_shelf (nI k) m_lists m_listed m_work_2 m_counts m_older m_products_2 m_part m_parts m_ways_2 m_used_2 m_greaterNow_2 m_countNow_2) (kI kd) wv (kI kd) work' m_products m_ways m_used m_greaterNow m_countNow := fun work' => by
        unfold q7_place_27
        exact m_beginRow hk hn (fun pr' wy' hp hw2 => m_place hk hn hp hw2 hmo hσ (MW_0 hwv) (fun mu' gn' cn' work' => ⟨rfl, n, k, σ, τ, ln, bx, hI, ⟨rfl, rfl, rfl, rfl, rfl, rfl, rfl⟩, hc, hcs, hcl, ht, ⟨rfl, rfl⟩, hmo, hms, hml⟩))
      refine ⟨fun g => ?_, fun g => ?_⟩
      · exact hnum _ (fun e => g ((kI_m1 hk).mpr e)) (fun work' => h27 work')
      · have h3 := (kI_m1 hk).mp g
        have := h27 m_work
        rw [h30 h3] at this
        exact this
    refine ⟨fun g => ?_, fun g => ?_⟩
    · have h3 : kd ≠ 3 := fun e => g ((kI_m1 hk).mpr e)
      have hk2 : kd = 1 ∨ kd = 2 := by omega
      have en := w0P_num (n := n) (σ := σ) hk2
      have hgo := fun made' => hfin (nI (num σ n kd)) made' (fun _ => by rw [en]) (fun Q _ hq => by rw [kI_nI hk2]; exact m_numberOf (by omega) hn h1n hmo hσ hq) (fun e => absurd e h3)
      have := o_numberOf (k := kd) (made := c_made) (Q := fun r19 c_made_20 => q6_place_37 (nI n) c_row (nI n) t_fac t_rec t_ris _ (kI kd) (nI n) r19 w_used w_kind w_size w_left w_last w_top w_wanted c_made_20) (by omega) hn h1n hc hσ (fun made' => hgo made')
      rw [← kI_nI hk2] at this
      exact this
    · have h3 := (kI_m1 hk).mp g
      exact hfin 0 c_made (fun e => absurd h3 e) (fun Q e => absurd h3 e) (fun _ => rfl)
  · exact c_rk0 hbad (y0 (by unfold q7_place; exact m_rk0 hbad (y0 ⟨rfl, n, k, σ, τ, ln, bx, hI, ⟨rfl, rfl, rfl, rfl, rfl, rfl, rfl⟩, hc, hcs, hcl, ht, ⟨rfl, rfl⟩, hmo, hms, hml⟩)))
