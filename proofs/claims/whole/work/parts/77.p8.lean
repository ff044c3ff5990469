/-! the reference's count of the rows that all win by told lists -/
theorem FAC_7 : ∀ n, n < 8 → 0 < FAC n ∧ FAC n ≤ 5040 := by decide +kernel
theorem m_lkth {n i x : Nat} {U : Nat → Bool} {msk : Nat} {x2 : Int32} {pr : Nat → Int64} {work : Nat → Int32} {K7 : Int32 → Int32 → Int32 → (Nat → Int32) → Prop} {Q : (Nat → Int32) → Prop} (hn : n ≤ 18) (hi : i < n) (hx : x < n) (hu : U x = false) (hm : msk < 2 ^ 18) (hb : ∀ y, msk.testBit y = U y) (hQ : K7 x2 (nI (msk ||| 2 ^ x)) (nI (i + 1)) (upd work i (nI x))) : ∃ k, q7_layRow_47 (nI n) pr K7 Q k x2 (nI msk) (nI i) (nI (rk U x)) 0 work := by
  have hr9 : rk U x ≤ x := fb_ct_le _ _
  have key : ∃ k, (fun k (b a : Int32) => q7_layRow_47 (nI n) pr K7 Q k x2 (nI msk) (nI i) b a work) k (nI (rk U x)) 0 := by
    refine up2 (fun k (b a : Int32) => q7_layRow_47 (nI n) pr K7 Q k x2 (nI msk) (nI i) b a work) (fun y => nI (rk U x - rk U y)) (fun y => nI y) 0 x (Nat.zero_le _) (fun k => ?_) (fun k y _ hy ih => ?_) rfl rfl
    · unfold q7_layRow_47
      rw [bitI hm (by omega), hb x, hu]
      refine ⟨fun g => absurd g (by decide), fun _ => pk_le (rk U x - rk U x) 0 (fun _ => ?_) (fun g => by omega)⟩
      unfold q7_layRow_87
      rw [shl1 x (by omega), fa_or, nI_clamp (by omega), nI_1]
      exact ⟨pk_in i 18 (by omega), hQ⟩
    · unfold q7_layRow_47
      rw [bitI hm (by omega), hb y]
      rw [rk_s] at ih
      by_cases hy9 : U y = true
      · rw [if_pos hy9] at ih
        rw [hy9]
        refine ⟨fun _ => ?_, fun g => absurd rfl g⟩
        unfold q7_layRow_62
        rw [bitI hm (by omega), hb y, hy9]
        refine ⟨fun _ => ?_, fun g => absurd g (by decide)⟩
        unfold q7_layRow_78
        rw [nI_1, Int32.sub_zero]
        exact ih
      · have hyf : U y = false := by cases h9 : U y; rfl; exact absurd h9 hy9
        have hlt := rk_lt hyf hy
        rw [if_neg hy9] at ih
        rw [hyf]
        refine ⟨fun g => absurd g (by decide), fun _ => pk_le (rk U x - rk U y) 0 (fun g => by omega) (fun _ => ?_)⟩
        unfold q7_layRow_62
        rw [bitI hm (by omega), hb y, hyf]
        refine ⟨fun g => absurd rfl g, fun _ => ?_⟩
        unfold q7_layRow_78
        rw [nI_1, show (1 : Int32) = nI 1 from rfl, pk_sub (by omega), show rk U x - rk U y - 1 = rk U x - (rk U y + 1) by omega]
        exact ih
  exact key
theorem m_layRow {n q : Nat} {pr : Nat → Int64} {work : Nat → Int32} {Q : (Nat → Int32) → Prop} (hn : n ≤ 7) (hq : q < FAC n) (hpr : ∀ i, i < 19 → pr i = lN (FAC i)) (hQ : ∀ work', Rw n work' (sgR n q) → Q work') : q7_layRow (nI n) pr work (nI q) Q := by
  unfold q7_layRow
  refine lpI (fun k i (s : Nat × (Nat → Int32)) => q7_layRow_7 (nI n) pr Q k (nI (qS n q i).1) (nI s.1) (nI i) s.2) (fun i s => s.1 < 2 ^ 18 ∧ (∀ y, s.1.testBit y = (qS n q i).2 y) ∧ ∀ j, j < i → s.2 j = nI (sgR n q j)) 0 n (0, work) (Nat.zero_le _) ⟨(show 0 < 2 ^ 18 by decide), fun y => Nat.zero_testBit y, fun j hj => by omega⟩ (fun k s hI => ?_) (fun k i s _ hi hI ih => ?_)
  · unfold q7_layRow_7
    exact pk_le n n (fun _ => hQ _ hI.2.2) (fun g => by omega)
  · obtain ⟨msk, work⟩ := s
    obtain ⟨g1, g2, g3⟩ := hI
    dsimp only at g1 g2 g3 ⊢
    obtain ⟨h1, h2, h3, h4⟩ := qS_inv (show n ≤ 18 by omega) hq i (by omega)
    obtain ⟨h5, h6, h7⟩ := h4 hi
    have hf := FAC_7 (n - (i + 1)) (by omega)
    have hf2 := FAC_7 (n - i) (by omega)
    have e0 : nI n - (1 : Int32) - nI i = nI (n - (i + 1)) := by
      rw [show (1 : Int32) = nI 1 from rfl, pk_sub (by omega), pk_sub (by omega), show n - 1 - i = n - (i + 1) by omega]
    unfold q7_layRow_7
    rw [e0, nI_clamp (by omega), hpr _ (by omega), lN_i, pk_rem (by omega) hf.1 (by omega), pk_div (by omega) hf.1 (by omega), ← h7]
    have hne : ¬ nI (FAC (n - (i + 1))) = 0 := fun e => by have := (nI_eq (b := 0) (by omega) (by decide)).mp e; omega
    refine pk_le n i (fun g => by omega) (fun _ => ⟨pk_in (n - (i + 1)) 19 (by omega), hne, hne, m_lkth (by omega) hi h5 h6 g1 g2 ?_⟩)
    refine ih (msk ||| 2 ^ sgR n q i, upd work i (nI (sgR n q i))) ⟨Nat.or_lt_two_pow g1 (Nat.pow_lt_pow_right (by decide) (by omega)), fun y => ?_, fun j hj => ?_⟩
    · show (msk ||| 2 ^ sgR n q i).testBit y = (if y = sgR n q i then true else (qS n q i).2 y)
      rw [fb_bit_set, g2]
      by_cases e : y = sgR n q i
      · rw [if_pos e, decide_eq_true e, Bool.or_true]
      · rw [if_neg e, decide_eq_false e, Bool.or_false]
    · by_cases e : j = i
      · subst e; exact pk_us
      · exact (pk_un e).trans (g3 j (by omega))
def wnB (ln : Nat → Nat) (bx : Nat → Nat → Nat) (k : Nat) (σ : Nat → Nat) (x : Nat) : Bool := anB (fun i => decide (σ (bx x i) = x)) (min (ln x) k)
theorem wn_op {n k : Nat} {ln : Nat → Nat} {bx : Nat → Nat → Nat} {σ : Nat → Nat} (hs : Pm n σ) (hbx : ∀ p i, p < n → i < ln p → bx p i < n) : alB (wnB ln bx k σ) n = alB (fun b => opB ln bx k b (σ b)) n := by
  rw [Bool.eq_iff_iff, alB_iff, alB_iff]
  constructor
  · intro h b hb
    obtain ⟨i, hi, e⟩ := (anB_iff _).mp (h (σ b) (hs.1 b hb))
    have e := of_decide_eq_true e
    exact (anB_iff _).mpr ⟨i, hi, decide_eq_true (hs.2 _ _ (hbx _ i (hs.1 b hb) (by omega)) hb e)⟩
  · intro h x hx
    obtain ⟨b, hb, e⟩ := fb_onto hs.1 (fun i j hij hj e => by have := hs.2 i j (by omega) hj e; omega) hx
    subst e
    obtain ⟨i, hi, e⟩ := (anB_iff _).mp (h b hb)
    have e := of_decide_eq_true e
    exact (anB_iff _).mpr ⟨i, hi, decide_eq_true (by rw [e])⟩
theorem m_all {n k : Nat} {ln : Nat → Nat} {bx : Nat → Nat → Nat} {σ : Nat → Nat} {ml md work : Nat → Int32} {c o pr : Nat → Int64} {pt : Nat → Int32} {pl x1 x4 : Int32} {x2 : Int64} {K74 : Int32 → Int64 → Int32 → (Nat → Int32) → (Nat → Int64) → (Nat → Int64) → (Nat → Int64) → (Nat → Int32) → Int32 → Prop} {Q : Int64 → (Nat → Int32) → (Nat → Int64) → (Nat → Int64) → (Nat → Int64) → (Nat → Int32) → Int32 → Prop} (hn : n ≤ 18) (hk : k ≤ n) (hml : ML ln bx md ml) (hln : ∀ p, p < 18 → ln p ≤ n) (hbx : ∀ p i, p < 18 → i < ln p → bx p i < n) (hr : Rw n work σ) (hs : In n σ) (h : K74 x1 (x2 + lN (if alB (wnB ln bx k σ) n = true then 1 else 0)) (x4 + 1) work c o pr pt pl) : ∃ k2, q7_allWin_107 (nI n) (nI k) ml md K74 Q k2 x1 x2 x4 1 0 work c o pr pt pl := by
  have key : ∃ k2, (fun k2 (a b : Int32) => q7_allWin_107 (nI n) (nI k) ml md K74 Q k2 x1 x2 x4 a b work c o pr pt pl) k2 1 0 := by
    refine up2 (fun k2 (a b : Int32) => q7_allWin_107 (nI n) (nI k) ml md K74 Q k2 x1 x2 x4 a b work c o pr pt pl) (fun j => bI (alB (wnB ln bx k σ) j)) (fun j => nI j) 0 n (Nat.zero_le _) (fun k2 => ?_) (fun k2 j _ hj ih => ?_) rfl rfl
    · unfold q7_allWin_107
      refine pk_le n n (fun _ => ?_) (fun g => by omega)
      unfold q7_allWin_147 q7_allWin_158
      cases e : alB (wnB ln bx k σ) n
      · rw [e] at h
        exact ⟨fun _ => h, fun g => absurd rfl g⟩
      · rw [e] at h
        exact ⟨fun g => absurd g (by decide), fun _ => h⟩
    · unfold q7_allWin_107
      refine pk_le n j (fun g => by omega) (fun _ => ?_)
      have ih : q7_allWin_107 (nI n) (nI k) ml md K74 Q k2 x1 x2 x4 (bI (alB (wnB ln bx k σ) j && wnB ln bx k σ j)) (nI (j + 1)) work c o pr pt pl := ih
      unfold q7_allWin_139
      rw [nI_1]
      cases e : alB (wnB ln bx k σ) j
      · rw [e, Bool.false_and] at ih
        exact ⟨fun _ => ih, fun g => absurd rfl g⟩
      · rw [e, Bool.true_and] at ih
        refine ⟨fun g => absurd g (by decide), fun _ => m_winsBy (bx := bx) hn hk hj (hml.1 j (by omega)) (hln j (by omega)) (fun i hi => hml.2 j i (by omega) hi) (fun i hi => hbx j i (by omega) hi) hr hs ?_⟩
        show (bI (wnB ln bx k σ j) = 0 → _) ∧ (¬ bI (wnB ln bx k σ j) = 0 → _)
        cases e2 : wnB ln bx k σ j
        · rw [e2] at ih
          exact ⟨fun _ => ih, fun g => absurd rfl g⟩
        · rw [e2] at ih
          exact ⟨fun g => absurd g (by decide), fun _ => ih⟩
  exact key
theorem m_win1 {n k : Nat} {ln : Nat → Nat} {bx : Nat → Nat → Nat} {ml md work : Nat → Int32} {c o pr : Nat → Int64} {pt : Nat → Int32} {pl : Int32} {Q : Int64 → (Nat → Int32) → (Nat → Int64) → (Nat → Int64) → (Nat → Int64) → (Nat → Int32) → Int32 → Prop} (hn : n ≤ 7) (hk : 1 ≤ k ∧ k ≤ n) (hml : ML ln bx md ml) (hln : ∀ p, p < 18 → ln p ≤ n) (hbx : ∀ p i, p < 18 → i < ln p → bx p i < n) (hpr : ∀ i, i < 19 → pr i = lN (FAC i)) (h : ∀ work', Q (lN (permR (mtB ln bx k) (dnL n) (upL 0 n))) work' c o pr pt pl) : ∃ k2, q7_allWin_42 (nI n) (nI k) ml md Q k2 (nI 1) 0 1 work c o pr pt pl := by
  have hf := FAC_7 n (by omega)
  have key : ∀ m, m ≤ FAC n → fb_sm (fun q => if alB (wnB ln bx k (sgR n q)) n = true then 1 else 0) m = fb_sm (fun q => if alB (fun b => opB ln bx k b (sgR n q b)) n = true then 1 else 0) m := fun m hm => fb_sm_cong (fun q hq => by rw [wn_op (sgR_Pm (by omega) (by omega)) (fun p i hp hi => hbx p i (by omega) hi)])
  refine ⟨1, ?_⟩
  unfold q7_allWin_42
  refine pk_lt k 1 (fun g => by omega) (fun _ => ⟨fun _ => ?_, fun g => absurd g (by decide)⟩)
  unfold q7_allWin_71
  refine lpI (fun k2 q (w : Nat → Int32) => q7_allWin_74 (nI n) (nI k) ml md Q k2 (nI 1) (lN (fb_sm (fun q => if alB (wnB ln bx k (sgR n q)) n = true then 1 else 0) q)) (nI q) w c o pr pt pl) (fun _ _ => True) 0 (FAC n) work (Nat.zero_le _) trivial (fun k2 w _ => ?_) (fun k2 q w _ hq _ ih => ?_)
  · unfold q7_allWin_74
    rw [nI_clamp (by omega), hpr n (by omega), nI_l (by omega)]
    refine ⟨fun g => absurd rfl g, fun _ => ⟨pk_in n 19 (by omega), fun _ => ?_, fun g => absurd ((pk_lLE (by omega) (by omega)).mpr (Nat.le_refl _)) g⟩⟩
    rw [key _ (Nat.le_refl _), rows_sum (by omega), ← perm_two]
    exact h w
  · unfold q7_allWin_74
    rw [nI_clamp (by omega), hpr n (by omega), nI_l (by omega)]
    refine ⟨fun g => absurd rfl g, fun _ => ⟨pk_in n 19 (by omega), fun g => absurd ((pk_lLE (by omega) (by omega)).mp g) (by omega), fun _ => m_layRow hn hq hpr (fun w' hw' => m_all (by omega) hk.2 hml hln hbx hw' (sgR_Pm (by omega) hq).1 ?_)⟩⟩
    rw [nI_1, lN_add]
    exact ih w' trivial
theorem js_allWin {G : Nat → Nat → (Nat → Int64) → Prop} : JS_allWin HJ G := by
  intro h_size h_opened h_tal s0_row s0_made s0_size s1_row s1_made s1_size s2_row s2_made s2_size s3_row s3_made s3_size l_len l_ways l_box w_used w_kind w_size w_left w_last w_top w_wanted c_row c_made c_size t_fac t_der t_rec t_rut t_ris m_n m_order m_shelf m_opens m_lists m_listed m_work m_counts m_older m_products m_part m_parts m_ways m_used m_greaterNow m_countNow a1 hJ
  obtain ⟨n, k, σ, τ, ln, bx, hI, ⟨rfl, rfl, rfl, rfl, rfl, rfl, rfl⟩, hc, hcs, hcl, ht, ⟨rfl, rfl⟩, hmo, hms, hml⟩ := hJ
  have hn := hI.2.1
  have h1n := hI.1
  obtain ⟨-, -, hk, hσ, hτ, hlen, hzero, hbl, hbd⟩ := id hI
  unfold q6_allWin
  rcases ix a1 (n := 2) (by decide) with hb | ⟨w, hw, rfl⟩
  · refine c_wayB hb (y0 ?_)
    unfold q7_allWin
    exact m_in0 (M := 1) (by decide) hb (y0 ⟨rfl, n, k, σ, τ, ln, bx, hI, ⟨rfl, rfl, rfl, rfl, rfl, rfl, rfl⟩, hc, hcs, hcl, ht, ⟨rfl, rfl⟩, hmo, hms, hml⟩)
  · rcases (show w = 0 ∨ w = 1 by omega) with rfl | rfl
    · refine c_way0 (y1 ⟨fun g => absurd rfl g, fun _ => t_upTo ht.2.2.2.1 (by omega) (by omega) ?_⟩)
      unfold q7_allWin q7_allWin_32
      exact m_in1 (M := 1) (by decide) (by decide) (y1 ⟨fun _ => m_findCounts (k := 4) (by decide) h1n hn (fun c' o' pr' pt' pl' hc9 _ => m_win0 h1n hn hk hc9 ⟨rfl, n, k, σ, τ, ln, bx, hI, ⟨rfl, rfl, rfl, rfl, rfl, rfl, rfl⟩, hc, hcs, hcl, ht, ⟨rfl, rfl⟩, hmo, hms, hml⟩), fun g => absurd g (by decide)⟩)
    · refine c_way1 (y1 ⟨fun _ => pk_le n 7 (fun h7 => ?_) (fun h7 => ?_), fun g => absurd g (by decide)⟩)
      · refine l_won h1n h7 hk.2 hcl hlen hbl hbd (fun w' => ?_)
        unfold q7_allWin q7_allWin_32
        exact m_in1 (M := 1) (by decide) (by decide) (y1 ⟨fun g => absurd rfl g, fun _ => pk_le n 7 (fun _ => m_findCounts (k := 4) (by decide) h1n hn (fun c' o' pr' pt' pl' _ hpr => m_win1 h7 hk hml hlen hbl hpr (fun work' => ⟨rfl, n, k, σ, τ, ln, bx, hI, ⟨rfl, rfl, rfl, rfl, rfl, rfl, rfl⟩, hc, hcs, hcl, ht, ⟨rfl, rfl⟩, hmo, hms, hml⟩))) (fun g => by omega)⟩)
      · unfold q7_allWin
        exact m_in1 (M := 1) (by decide) (by decide) (y1 ⟨fun g => absurd rfl g, fun _ => pk_le n 7 (fun g => by omega) (fun _ => ⟨rfl, n, k, σ, τ, ln, bx, hI, ⟨rfl, rfl, rfl, rfl, rfl, rfl, rfl⟩, hc, hcs, hcl, ht, ⟨rfl, rfl⟩, hmo, hms, hml⟩)⟩)
