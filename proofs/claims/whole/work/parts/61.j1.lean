/-! what holds between the class and the reference -/
def Inv (n k : Nat) (σ : Nat → Nat) (τ : Nat → Nat → Nat) (ln : Nat → Nat) (bx : Nat → Nat → Nat) : Prop := 1 ≤ n ∧ n ≤ 18 ∧ (1 ≤ k ∧ k ≤ n) ∧ Pm n σ ∧ (∀ q, q < 4 → Pm n (τ q)) ∧ (∀ p, p < 18 → ln p ≤ n) ∧ (∀ p, n ≤ p → p < 18 → ln p = 0) ∧ (∀ p i, p < 18 → i < ln p → bx p i < n) ∧ (∀ p i j, p < 18 → i < ln p → j < ln p → bx p i = bx p j → i = j)
def CS (n : Nat) (τ : Nat → Nat → Nat) (s0 s1 s2 s3 : Nat → Int32) : Prop := Rw n s0 (τ 0) ∧ Rw n s1 (τ 1) ∧ Rw n s2 (τ 2) ∧ Rw n s3 (τ 3)
def CL (ln : Nat → Nat) (bx : Nat → Nat → Nat) (l_len : Nat → Int32) (l_box : Nat → Nat → Int32) : Prop := (∀ p, p < 18 → l_len p = nI (ln p)) ∧ (∀ p i, p < 18 → i < ln p → l_box p i = nI (bx p i))
def MS (n : Nat) (τ : Nat → Nat → Nat) (sh : Nat → Int32) : Prop := ∀ q j, q < 4 → j < n → sh (18 * q + j) = nI (τ q j)
def ML (ln : Nat → Nat) (bx : Nat → Nat → Nat) (m_listed m_lists : Nat → Int32) : Prop := (∀ p, p < 18 → m_listed p = nI (ln p)) ∧ (∀ p i, p < 18 → i < ln p → m_lists (18 * p + i) = nI (bx p i))
def JX (h_size : Int32) (h_opened : Int32) (c_size : Int32) (s0_size : Int32) (s1_size : Int32) (s2_size : Int32) (s3_size : Int32) (c_row : Nat → Int32) (s0_row : Nat → Int32) (s1_row : Nat → Int32) (s2_row : Nat → Int32) (s3_row : Nat → Int32) (l_len : Nat → Int32) (l_box : Nat → Nat → Int32) (t_fac : Nat → Int64) (t_der : Nat → Int64) (t_rec : Nat → Nat → Int64) (t_rut : Nat → Nat → Int64) (t_ris : Nat → Int64) (m_n : Int32) (m_opens : Int32) (m_order : Nat → Int32) (m_shelf : Nat → Int32) (m_lists : Nat → Int32) (m_listed : Nat → Int32) : Prop := ∃ (n k : Nat) (σ : Nat → Nat) (τ : Nat → Nat → Nat) (ln : Nat → Nat) (bx : Nat → Nat → Nat), Inv n k σ τ ln bx ∧ (h_size = nI n ∧ h_opened = nI k ∧ c_size = nI n ∧ s0_size = nI n ∧ s1_size = nI n ∧ s2_size = nI n ∧ s3_size = nI n) ∧ Rw n c_row σ ∧ CS n τ s0_row s1_row s2_row s3_row ∧ CL ln bx l_len l_box ∧ TabOK t_fac t_der t_rec t_rut t_ris ∧ (m_n = nI n ∧ m_opens = nI k) ∧ Rw n m_order σ ∧ MS n τ m_shelf ∧ ML ln bx m_listed m_lists
def HJ : JTy := fun h_size h_opened s0_row s0_made s0_size s1_row s1_made s1_size s2_row s2_made s2_size s3_row s3_made s3_size l_len l_ways l_box w_used w_kind w_size w_left w_last w_top w_wanted c_row c_made c_size t_fac t_der t_rec t_rut t_ris m_n m_order m_shelf m_opens m_lists m_listed m_work m_counts m_older m_products m_part m_parts m_ways m_used m_greaterNow m_countNow => JX h_size h_opened c_size s0_size s1_size s2_size s3_size c_row s0_row s1_row s2_row s3_row l_len l_box t_fac t_der t_rec t_rut t_ris m_n m_opens m_order m_shelf m_lists m_listed
theorem Inv.row {n k : Nat} {σ σ' : Nat → Nat} {τ : Nat → Nat → Nat} {ln : Nat → Nat} {bx : Nat → Nat → Nat} (h : Inv n k σ τ ln bx) (hs : Pm n σ') : Inv n k σ' τ ln bx := ⟨h.1, h.2.1, h.2.2.1, hs, h.2.2.2.2⟩
theorem Inv.op {n k k' : Nat} {σ : Nat → Nat} {τ : Nat → Nat → Nat} {ln : Nat → Nat} {bx : Nat → Nat → Nat} (h : Inv n k σ τ ln bx) (hk : 1 ≤ k' ∧ k' ≤ n) : Inv n k' σ τ ln bx := ⟨h.1, h.2.1, hk, h.2.2.2⟩
theorem Inv.sh {n k : Nat} {σ : Nat → Nat} {τ τ' : Nat → Nat → Nat} {ln : Nat → Nat} {bx : Nat → Nat → Nat} (h : Inv n k σ τ ln bx) (hs : ∀ q, q < 4 → Pm n (τ' q)) : Inv n k σ τ' ln bx := ⟨h.1, h.2.1, h.2.2.1, h.2.2.2.1, hs, h.2.2.2.2.2⟩
theorem fill_Rw {n : Nat} {σ : Nat → Nat} {f g : Nat → Int32} (h : Rw n f σ) : Rw n (fa_fill f g n) σ := fun j hj => by rw [fa_fill_in hj]; exact h j hj
theorem c_th1 {n j : Nat} {Q : Int32 → Prop} (hn : n ≤ 18) (hj : j < n) (h : Q 1) : q6_isThing (nI n) (nI j) Q := by
  unfold q6_isThing
  exact pk_lt j 0 (fun h => by omega) (fun _ => pk_le n j (fun h => by omega) (fun _ => h))
theorem c_th0 {n : Nat} {a : Int32} {Q : Int32 → Prop} (hb : a < 0 ∨ nI n ≤ a) (h : Q 0) : q6_isThing (nI n) a Q := by
  unfold q6_isThing
  refine ⟨fun _ => h, fun g => ⟨fun _ => h, fun g2 => ?_⟩⟩
  rcases hb with hb | hb
  · exact absurd hb g
  · exact absurd hb g2
theorem m_th1 {n j : Nat} {Q : Int32 → Prop} (hn : n ≤ 18) (hj : j < n) (h : Q 1) : q7_isThing (nI n) (nI j) Q := by
  refine m_isThing hn (by omega) (fun _ _ _ => h) (fun g => ?_)
  rcases g with g | g
  · exact absurd g (nI_pos (by omega))
  · exact absurd g (nI_ge hj (by omega))
theorem m_th0 {n : Nat} {a : Int32} {Q : Int32 → Prop} (hn : n ≤ 18) (h1n : 1 ≤ n) (hb : a < 0 ∨ nI n ≤ a) (h : Q 0) : q7_isThing (nI n) a Q := by
  refine m_isThing hn h1n (fun j hj e => ?_) (fun _ => h)
  subst e
  rcases hb with g | g
  · exact absurd g (nI_pos (by omega))
  · exact absurd g (nI_ge hj (by omega))
theorem ix (a : Int32) {n : Nat} (hn : n < 2 ^ 31) : (a < 0 ∨ nI n ≤ a) ∨ ∃ j, j < n ∧ a = nI j := by
  rcases pk_ix a hn with h | h | h
  · exact Or.inl (Or.inl h)
  · exact Or.inl (Or.inr h)
  · exact Or.inr h
theorem c_pl1 {j : Nat} {Q : Int32 → Prop} (hj : j < 4) (h : Q 1) : q6_isPlace (nI j) Q := by
  unfold q6_isPlace
  exact pk_lt j 0 (fun h => by omega) (fun _ => pk_le 4 j (fun h => by omega) (fun _ => h))
theorem c_pl0 {a : Int32} {Q : Int32 → Prop} (hb : a < 0 ∨ nI 4 ≤ a) (h : Q 0) : q6_isPlace a Q := by
  unfold q6_isPlace
  refine ⟨fun _ => h, fun g => ⟨fun _ => h, fun g2 => ?_⟩⟩
  rcases hb with hb | hb
  · exact absurd hb g
  · exact absurd hb g2
theorem m_in1 {j M : Nat} {Q : Int32 → Prop} (hM : M < 2 ^ 31) (hj : j ≤ M) (h : Q 1) : q7_in (nI j).toInt64 (0 : Int64) (nI M).toInt64 Q :=
  m_in (lo := 0) (fun _ _ => h) (fun g => by
    rcases g with g | g
    · exact absurd g (nI_pos (by omega))
    · exact absurd g (nI_nlt hj hM))
theorem m_in0 {a : Int32} {M : Nat} {Q : Int32 → Prop} (hM : M + 1 < 2 ^ 31) (hb : a < 0 ∨ nI (M + 1) ≤ a) (h : Q 0) : q7_in a.toInt64 (0 : Int64) (nI M).toInt64 Q :=
  m_in (lo := 0) (fun g1 g2 => by
    rcases hb with g | g
    · exact absurd g1 (fa_of_lt g).2.1
    · rw [Int32.le_iff_toInt_le, nI_toInt (by omega)] at g g2
      omega) (fun _ => h)
theorem z1 {A B : Prop} (h : B) : ((1 : Int32) = 0 → A) ∧ (¬ (1 : Int32) = 0 → B) := ⟨fun g => absurd g (by decide), fun _ => h⟩
theorem z0 {A B : Prop} (h : A) : ((0 : Int32) = 0 → A) ∧ (¬ (0 : Int32) = 0 → B) := ⟨fun _ => h, fun g => absurd rfl g⟩
theorem y1 {A B : Prop} (h : A) : (¬ (1 : Int32) = 0 → A) ∧ ((1 : Int32) = 0 → B) := ⟨fun _ => h, fun g => absurd g (by decide)⟩
theorem y0 {A B : Prop} (h : B) : (¬ (0 : Int32) = 0 → A) ∧ ((0 : Int32) = 0 → B) := ⟨fun g => absurd rfl g, fun _ => h⟩
theorem js_at {G : Nat → Nat → (Nat → Int64) → Prop} : JS_at HJ G := by
  intro h_size h_opened h_tal s0_row s0_made s0_size s1_row s1_made s1_size s2_row s2_made s2_size s3_row s3_made s3_size l_len l_ways l_box w_used w_kind w_size w_left w_last w_top w_wanted c_row c_made c_size t_fac t_der t_rec t_rut t_ris m_n m_order m_shelf m_opens m_lists m_listed m_work m_counts m_older m_products m_part m_parts m_ways m_used m_greaterNow m_countNow a1 hJ
  obtain ⟨n, k, σ, τ, ln, bx, hI, ⟨rfl, rfl, rfl, rfl, rfl, rfl, rfl⟩, hc, hcs, hcl, ht, ⟨rfl, rfl⟩, hmo, hms, hml⟩ := hJ
  have hn := hI.2.1
  have h1n := hI.1
  rcases ix a1 (n := n) (by omega) with hb | ⟨j, hj, rfl⟩
  · exact c_th0 hb (z0 (m_th0 hn h1n hb (z0 ⟨rfl, n, k, σ, τ, ln, bx, hI, ⟨rfl, rfl, rfl, rfl, rfl, rfl, rfl⟩, hc, hcs, hcl, ht, ⟨rfl, rfl⟩, hmo, hms, hml⟩)))
  · refine c_th1 hn hj (z1 (o_follow hn hj (hc j hj) (m_th1 hn hj (z1 ⟨pk_in j 18 (by omega), ?_, n, k, σ, τ, ln, bx, hI, ⟨rfl, rfl, rfl, rfl, rfl, rfl, rfl⟩, hc, hcs, hcl, ht, ⟨rfl, rfl⟩, hmo, hms, hml⟩))))
    rw [nI_clamp (by omega), hmo j hj]
def swp (σ : Nat → Nat) (i j : Nat) : Nat → Nat := fun x => if x = j then σ i else if x = i then σ j else σ x
theorem swp_Pm {n i j : Nat} {σ : Nat → Nat} (hs : Pm n σ) (hi : i < n) (hj : j < n) : Pm n (swp σ i j) := by
  refine ⟨fun x hx => ?_, fun x y hx hy e => ?_⟩
  · unfold swp
    split
    · exact hs.1 i hi
    · split
      · exact hs.1 j hj
      · exact hs.1 x hx
  · have key : ∀ z, z < n → ∃ w, w < n ∧ swp σ i j z = σ w ∧ w = (if z = j then i else if z = i then j else z) := fun z hz => by
      unfold swp
      split
      · exact ⟨i, hi, rfl, rfl⟩
      · split
        · exact ⟨j, hj, rfl, rfl⟩
        · exact ⟨z, hz, rfl, rfl⟩
    obtain ⟨u, hu, eu, fu⟩ := key x hx
    obtain ⟨w, hw, ew, fw⟩ := key y hy
    have := hs.2 u w hu hw (by rw [← eu, ← ew, e])
    rw [fu, fw] at this
    repeat' split at this
    all_goals omega
theorem swp_Rw {n i j : Nat} {σ : Nat → Nat} {row : Nat → Int32} (hr : Rw n row σ) (hi : i < n) (hj : j < n) : Rw n (upd (upd row i (row j)) j (row i)) (swp σ i j) := by
  intro x hx
  unfold swp
  by_cases e : x = j
  · rw [if_pos e, e, pk_us]; exact hr i hi
  · rw [if_neg e, pk_un e]
    by_cases e2 : x = i
    · rw [if_pos e2, e2, pk_us]; exact hr j hj
    · rw [if_neg e2, pk_un e2]; exact hr x hx
theorem js_swap {G : Nat → Nat → (Nat → Int64) → Prop} : JS_swap HJ G := by
  intro h_size h_opened h_tal s0_row s0_made s0_size s1_row s1_made s1_size s2_row s2_made s2_size s3_row s3_made s3_size l_len l_ways l_box w_used w_kind w_size w_left w_last w_top w_wanted c_row c_made c_size t_fac t_der t_rec t_rut t_ris m_n m_order m_shelf m_opens m_lists m_listed m_work m_counts m_older m_products m_part m_parts m_ways m_used m_greaterNow m_countNow a1 a2 hJ
  obtain ⟨n, k, σ, τ, ln, bx, hI, ⟨rfl, rfl, rfl, rfl, rfl, rfl, rfl⟩, hc, hcs, hcl, ht, ⟨rfl, rfl⟩, hmo, hms, hml⟩ := hJ
  have hn := hI.2.1
  have h1n := hI.1
  rcases ix a1 (n := n) (by omega) with hb | ⟨i, hi, rfl⟩
  · exact c_th0 hb (z0 (m_th0 hn h1n hb (z0 ⟨rfl, n, k, σ, τ, ln, bx, hI, ⟨rfl, rfl, rfl, rfl, rfl, rfl, rfl⟩, hc, hcs, hcl, ht, ⟨rfl, rfl⟩, hmo, hms, hml⟩)))
  · refine c_th1 hn hi (z1 ?_)
    rcases ix a2 (n := n) (by omega) with hb | ⟨j, hj, rfl⟩
    · exact c_th0 hb (y0 (m_th1 hn hi (z1 (m_th0 hn h1n hb (y0 ⟨rfl, n, k, σ, τ, ln, bx, hI, ⟨rfl, rfl, rfl, rfl, rfl, rfl, rfl⟩, hc, hcs, hcl, ht, ⟨rfl, rfl⟩, hmo, hms, hml⟩)))))
    · refine c_th1 hn hj (y1 (o_exchange hn hi hj (m_th1 hn hi (z1 (m_th1 hn hj (y1 ⟨pk_in i 18 (by omega), pk_in j 18 (by omega), pk_in i 18 (by omega), pk_in j 18 (by omega), rfl, ?_⟩))))))
      rw [nI_clamp (by omega), nI_clamp (by omega)]
      exact ⟨n, k, swp σ i j, τ, ln, bx, hI.row (swp_Pm hI.2.2.2.1 hi hj), ⟨rfl, rfl, rfl, rfl, rfl, rfl, rfl⟩, swp_Rw hc hi hj, hcs, hcl, ht, ⟨rfl, rfl⟩, swp_Rw hmo hi hj, hms, hml⟩
theorem MS_lay {n p : Nat} {σ : Nat → Nat} {τ : Nat → Nat → Nat} {sh row : Nat → Int32} (hn : n ≤ 18) (hp : p < 4) (hm : MS n τ sh) (hr : Rw n row σ) : MS n (fun q => if q = p then σ else τ q) (fb_put sh row (18 * p) n) := by
  intro q j hq hj
  show _ = nI ((if q = p then σ else τ q) j)
  by_cases e : q = p
  · subst e
    rw [if_pos rfl, fb_put_in (by omega) (by omega), show 18 * q + j - 18 * q = j by omega]
    exact hr j hj
  · rw [if_neg e, fb_put_out (by omega)]
    exact hm q j hq hj
theorem Pm_lay {n p : Nat} {σ : Nat → Nat} {τ : Nat → Nat → Nat} (hs : Pm n σ) (ht : ∀ q, q < 4 → Pm n (τ q)) : ∀ q, q < 4 → Pm n ((fun q => if q = p then σ else τ q) q) := by
  intro q hq
  dsimp only
  split
  · exact hs
  · exact ht q hq
theorem js_lay {G : Nat → Nat → (Nat → Int64) → Prop} : JS_lay HJ G := by
  intro h_size h_opened h_tal s0_row s0_made s0_size s1_row s1_made s1_size s2_row s2_made s2_size s3_row s3_made s3_size l_len l_ways l_box w_used w_kind w_size w_left w_last w_top w_wanted c_row c_made c_size t_fac t_der t_rec t_rut t_ris m_n m_order m_shelf m_opens m_lists m_listed m_work m_counts m_older m_products m_part m_parts m_ways m_used m_greaterNow m_countNow a1 hJ
  obtain ⟨n, k, σ, τ, ln, bx, hI, ⟨rfl, rfl, rfl, rfl, rfl, rfl, rfl⟩, hc, hcs, hcl, ht, ⟨rfl, rfl⟩, hmo, hms, hml⟩ := hJ
  have hn := hI.2.1
  have h1n := hI.1
  rcases ix a1 (n := 4) (by decide) with hb | ⟨j, hj, rfl⟩
  · exact c_pl0 hb (y0 (m_in0 (M := 3) (by decide) hb (y0 ⟨rfl, n, k, σ, τ, ln, bx, hI, ⟨rfl, rfl, rfl, rfl, rfl, rfl, rfl⟩, hc, hcs, hcl, ht, ⟨rfl, rfl⟩, hmo, hms, hml⟩)))
  · refine c_pl1 hj (y1 ⟨pk_in j 4 hj, ?_⟩)
    exact ⟨(fun e => by
      have e := (nI_eq (b := 0) (by omega) (by decide)).mp e
      subst e
      refine o_copyFrom hn (m_in1 (M := 3) (by decide) (by decide) (y1 (m_lay hn (by decide) ⟨rfl, n, k, σ, fun q => if q = 0 then σ else τ q, ln, bx, hI.sh (Pm_lay hI.2.2.2.1 hI.2.2.2.2.1), ⟨rfl, rfl, rfl, rfl, rfl, rfl, rfl⟩, hc, ⟨fill_Rw hc, hcs.2.1, hcs.2.2.1, hcs.2.2.2⟩, hcl, ht, ⟨rfl, rfl⟩, hmo, MS_lay hn (by decide) hms hmo, hml⟩))))
     , (fun e => by
      have e := (nI_eq (b := 1) (by omega) (by decide)).mp e
      subst e
      refine o_copyFrom hn (m_in1 (M := 3) (by decide) (by decide) (y1 (m_lay hn (by decide) ⟨rfl, n, k, σ, fun q => if q = 1 then σ else τ q, ln, bx, hI.sh (Pm_lay hI.2.2.2.1 hI.2.2.2.2.1), ⟨rfl, rfl, rfl, rfl, rfl, rfl, rfl⟩, hc, ⟨hcs.1, fill_Rw hc, hcs.2.2.1, hcs.2.2.2⟩, hcl, ht, ⟨rfl, rfl⟩, hmo, MS_lay hn (by decide) hms hmo, hml⟩))))
     , (fun e => by
      have e := (nI_eq (b := 2) (by omega) (by decide)).mp e
      subst e
      refine o_copyFrom hn (m_in1 (M := 3) (by decide) (by decide) (y1 (m_lay hn (by decide) ⟨rfl, n, k, σ, fun q => if q = 2 then σ else τ q, ln, bx, hI.sh (Pm_lay hI.2.2.2.1 hI.2.2.2.2.1), ⟨rfl, rfl, rfl, rfl, rfl, rfl, rfl⟩, hc, ⟨hcs.1, hcs.2.1, fill_Rw hc, hcs.2.2.2⟩, hcl, ht, ⟨rfl, rfl⟩, hmo, MS_lay hn (by decide) hms hmo, hml⟩))))
     , (fun e => by
      have e := (nI_eq (b := 3) (by omega) (by decide)).mp e
      subst e
      refine o_copyFrom hn (m_in1 (M := 3) (by decide) (by decide) (y1 (m_lay hn (by decide) ⟨rfl, n, k, σ, fun q => if q = 3 then σ else τ q, ln, bx, hI.sh (Pm_lay hI.2.2.2.1 hI.2.2.2.2.1), ⟨rfl, rfl, rfl, rfl, rfl, rfl, rfl⟩, hc, ⟨hcs.1, hcs.2.1, hcs.2.2.1, fill_Rw hc⟩, hcl, ht, ⟨rfl, rfl⟩, hmo, MS_lay hn (by decide) hms hmo, hml⟩))))⟩
theorem js_take {G : Nat → Nat → (Nat → Int64) → Prop} : JS_take HJ G := by
  intro h_size h_opened h_tal s0_row s0_made s0_size s1_row s1_made s1_size s2_row s2_made s2_size s3_row s3_made s3_size l_len l_ways l_box w_used w_kind w_size w_left w_last w_top w_wanted c_row c_made c_size t_fac t_der t_rec t_rut t_ris m_n m_order m_shelf m_opens m_lists m_listed m_work m_counts m_older m_products m_part m_parts m_ways m_used m_greaterNow m_countNow a1 hJ
  obtain ⟨n, k, σ, τ, ln, bx, hI, ⟨rfl, rfl, rfl, rfl, rfl, rfl, rfl⟩, hc, hcs, hcl, ht, ⟨rfl, rfl⟩, hmo, hms, hml⟩ := hJ
  have hn := hI.2.1
  have h1n := hI.1
  rcases ix a1 (n := 4) (by decide) with hb | ⟨j, hj, rfl⟩
  · exact c_pl0 hb (y0 (m_in0 (M := 3) (by decide) hb (y0 ⟨rfl, n, k, σ, τ, ln, bx, hI, ⟨rfl, rfl, rfl, rfl, rfl, rfl, rfl⟩, hc, hcs, hcl, ht, ⟨rfl, rfl⟩, hmo, hms, hml⟩)))
  · refine c_pl1 hj (y1 ⟨pk_in j 4 hj, ?_⟩)
    exact ⟨(fun e => by
      have e := (nI_eq (b := 0) (by omega) (by decide)).mp e
      subst e
      refine o_copyFrom hn (m_in1 (M := 3) (by decide) (by decide) (y1 (m_take hn (by decide) ⟨rfl, n, k, τ 0, τ, ln, bx, hI.row (hI.2.2.2.2.1 0 (by decide)), ⟨rfl, rfl, rfl, rfl, rfl, rfl, rfl⟩, fill_Rw hcs.1, hcs, hcl, ht, ⟨rfl, rfl⟩, fill_Rw (fun j hj => hms 0 j (by decide) hj), hms, hml⟩))))
     , (fun e => by
      have e := (nI_eq (b := 1) (by omega) (by decide)).mp e
      subst e
      refine o_copyFrom hn (m_in1 (M := 3) (by decide) (by decide) (y1 (m_take hn (by decide) ⟨rfl, n, k, τ 1, τ, ln, bx, hI.row (hI.2.2.2.2.1 1 (by decide)), ⟨rfl, rfl, rfl, rfl, rfl, rfl, rfl⟩, fill_Rw hcs.2.1, hcs, hcl, ht, ⟨rfl, rfl⟩, fill_Rw (fun j hj => hms 1 j (by decide) hj), hms, hml⟩))))
     , (fun e => by
      have e := (nI_eq (b := 2) (by omega) (by decide)).mp e
      subst e
      refine o_copyFrom hn (m_in1 (M := 3) (by decide) (by decide) (y1 (m_take hn (by decide) ⟨rfl, n, k, τ 2, τ, ln, bx, hI.row (hI.2.2.2.2.1 2 (by decide)), ⟨rfl, rfl, rfl, rfl, rfl, rfl, rfl⟩, fill_Rw hcs.2.2.1, hcs, hcl, ht, ⟨rfl, rfl⟩, fill_Rw (fun j hj => hms 2 j (by decide) hj), hms, hml⟩))))
     , (fun e => by
      have e := (nI_eq (b := 3) (by omega) (by decide)).mp e
      subst e
      refine o_copyFrom hn (m_in1 (M := 3) (by decide) (by decide) (y1 (m_take hn (by decide) ⟨rfl, n, k, τ 3, τ, ln, bx, hI.row (hI.2.2.2.2.1 3 (by decide)), ⟨rfl, rfl, rfl, rfl, rfl, rfl, rfl⟩, fill_Rw hcs.2.2.2, hcs, hcl, ht, ⟨rfl, rfl⟩, fill_Rw (fun j hj => hms 3 j (by decide) hj), hms, hml⟩))))⟩
theorem comp_Pm {n : Nat} {σ τ : Nat → Nat} (hs : Pm n σ) (ht : Pm n τ) : Pm n (fun j => τ (σ j)) := ⟨fun j hj => ht.1 _ (hs.1 j hj), fun i j hi hj e => hs.2 i j hi hj (ht.2 _ _ (hs.1 i hi) (hs.1 j hj) e)⟩
theorem lay_Rw {n : Nat} {σ : Nat → Nat} {g : Nat → Int32} : Rw n (fa_fill (fun j => nI (σ j)) g n) σ := fun j hj => by rw [fa_fill_in hj]
theorem js_then {G : Nat → Nat → (Nat → Int64) → Prop} : JS_then HJ G := by
  intro h_size h_opened h_tal s0_row s0_made s0_size s1_row s1_made s1_size s2_row s2_made s2_size s3_row s3_made s3_size l_len l_ways l_box w_used w_kind w_size w_left w_last w_top w_wanted c_row c_made c_size t_fac t_der t_rec t_rut t_ris m_n m_order m_shelf m_opens m_lists m_listed m_work m_counts m_older m_products m_part m_parts m_ways m_used m_greaterNow m_countNow a1 hJ
  obtain ⟨n, k, σ, τ, ln, bx, hI, ⟨rfl, rfl, rfl, rfl, rfl, rfl, rfl⟩, hc, hcs, hcl, ht, ⟨rfl, rfl⟩, hmo, hms, hml⟩ := hJ
  have hn := hI.2.1
  have h1n := hI.1
  rcases ix a1 (n := 4) (by decide) with hb | ⟨j, hj, rfl⟩
  · exact c_pl0 hb (y0 (m_in0 (M := 3) (by decide) hb (y0 ⟨rfl, n, k, σ, τ, ln, bx, hI, ⟨rfl, rfl, rfl, rfl, rfl, rfl, rfl⟩, hc, hcs, hcl, ht, ⟨rfl, rfl⟩, hmo, hms, hml⟩)))
  · refine c_pl1 hj (y1 ⟨pk_in j 4 hj, ?_⟩)
    exact ⟨(fun e => by
      have e := (nI_eq (b := 0) (by omega) (by decide)).mp e
      subst e
      refine o_goOnBy hn hc hI.2.2.2.1.1 hcs.1 (m_in1 (M := 3) (by decide) (by decide) (y1 (m_then hn (by decide) hmo hI.2.2.2.1.1 (fun j hj => hms 0 j (by decide) hj) ⟨rfl, n, k, fun j => τ 0 (σ j), τ, ln, bx, hI.row (comp_Pm hI.2.2.2.1 (hI.2.2.2.2.1 0 (by decide))), ⟨rfl, rfl, rfl, rfl, rfl, rfl, rfl⟩, lay_Rw, hcs, hcl, ht, ⟨rfl, rfl⟩, fill_Rw lay_Rw, hms, hml⟩))))
     , (fun e => by
      have e := (nI_eq (b := 1) (by omega) (by decide)).mp e
      subst e
      refine o_goOnBy hn hc hI.2.2.2.1.1 hcs.2.1 (m_in1 (M := 3) (by decide) (by decide) (y1 (m_then hn (by decide) hmo hI.2.2.2.1.1 (fun j hj => hms 1 j (by decide) hj) ⟨rfl, n, k, fun j => τ 1 (σ j), τ, ln, bx, hI.row (comp_Pm hI.2.2.2.1 (hI.2.2.2.2.1 1 (by decide))), ⟨rfl, rfl, rfl, rfl, rfl, rfl, rfl⟩, lay_Rw, hcs, hcl, ht, ⟨rfl, rfl⟩, fill_Rw lay_Rw, hms, hml⟩))))
     , (fun e => by
      have e := (nI_eq (b := 2) (by omega) (by decide)).mp e
      subst e
      refine o_goOnBy hn hc hI.2.2.2.1.1 hcs.2.2.1 (m_in1 (M := 3) (by decide) (by decide) (y1 (m_then hn (by decide) hmo hI.2.2.2.1.1 (fun j hj => hms 2 j (by decide) hj) ⟨rfl, n, k, fun j => τ 2 (σ j), τ, ln, bx, hI.row (comp_Pm hI.2.2.2.1 (hI.2.2.2.2.1 2 (by decide))), ⟨rfl, rfl, rfl, rfl, rfl, rfl, rfl⟩, lay_Rw, hcs, hcl, ht, ⟨rfl, rfl⟩, fill_Rw lay_Rw, hms, hml⟩))))
     , (fun e => by
      have e := (nI_eq (b := 3) (by omega) (by decide)).mp e
      subst e
      refine o_goOnBy hn hc hI.2.2.2.1.1 hcs.2.2.2 (m_in1 (M := 3) (by decide) (by decide) (y1 (m_then hn (by decide) hmo hI.2.2.2.1.1 (fun j hj => hms 3 j (by decide) hj) ⟨rfl, n, k, fun j => τ 3 (σ j), τ, ln, bx, hI.row (comp_Pm hI.2.2.2.1 (hI.2.2.2.2.1 3 (by decide))), ⟨rfl, rfl, rfl, rfl, rfl, rfl, rfl⟩, lay_Rw, hcs, hcl, ht, ⟨rfl, rfl⟩, fill_Rw lay_Rw, hms, hml⟩))))⟩
theorem inv_ex {n : Nat} {σ : Nat → Nat} (hs : Pm n σ) : ∃ ρ : Nat → Nat, (∀ x, x < n → ρ x < n ∧ σ (ρ x) = x) := by
  have h : ∀ x, ∃ y, x < n → y < n ∧ σ y = x := fun x => by
    by_cases hx : x < n
    · obtain ⟨i, hi, e⟩ := fb_onto hs.1 (fun i j hij hj e => by have := hs.2 i j (by omega) hj e; omega) hx
      exact ⟨i, fun _ => ⟨hi, e⟩⟩
    · exact ⟨0, fun h => absurd h hx⟩
  exact ⟨fun x => Classical.choose (h x), fun x hx => Classical.choose_spec (h x) hx⟩
theorem inv_Pm {n : Nat} {σ ρ : Nat → Nat} (h : ∀ x, x < n → ρ x < n ∧ σ (ρ x) = x) : Pm n ρ := ⟨fun x hx => (h x hx).1, fun x y hx hy e => by rw [← (h x hx).2, ← (h y hy).2, e]⟩
/-- a row written at the places of a permutation -/
theorem scat_Rw {n : Nat} {σ ρ ε : Nat → Nat} {g : Nat → Int32} (hs : Pm n σ) (h : ∀ x, x < n → ρ x < n ∧ σ (ρ x) = x) : Rw n (scat σ (fun j => nI (ε j)) g n) (fun x => ε (ρ x)) := by
  intro x hx
  have := scat_at (e := fun j => nI (ε j)) (g := g) hs n (Nat.le_refl _) (ρ x) (h x hx).1
  rw [(h x hx).2] at this
  exact this
theorem js_back {G : Nat → Nat → (Nat → Int64) → Prop} : JS_back HJ G := by
  intro h_size h_opened h_tal s0_row s0_made s0_size s1_row s1_made s1_size s2_row s2_made s2_size s3_row s3_made s3_size l_len l_ways l_box w_used w_kind w_size w_left w_last w_top w_wanted c_row c_made c_size t_fac t_der t_rec t_rut t_ris m_n m_order m_shelf m_opens m_lists m_listed m_work m_counts m_older m_products m_part m_parts m_ways m_used m_greaterNow m_countNow  hJ
  obtain ⟨n, k, σ, τ, ln, bx, hI, ⟨rfl, rfl, rfl, rfl, rfl, rfl, rfl⟩, hc, hcs, hcl, ht, ⟨rfl, rfl⟩, hmo, hms, hml⟩ := hJ
  have hn := hI.2.1
  have h1n := hI.1
  obtain ⟨ρ, hρ⟩ := inv_ex hI.2.2.2.1
  have hR : ∀ g : Nat → Int32, Rw n (scat σ (fun j => nI j) g n) ρ := fun g => scat_Rw (ε := fun j => j) hI.2.2.2.1 hρ
  exact o_turnBack hn hc hI.2.2.2.1.1 (m_back hn hmo hI.2.2.2.1.1 ⟨rfl, n, k, ρ, τ, ln, bx, hI.row (inv_Pm hρ), ⟨rfl, rfl, rfl, rfl, rfl, rfl, rfl⟩, fill_Rw (hR _), hcs, hcl, ht, ⟨rfl, rfl⟩, fill_Rw (hR _), hms, hml⟩)
theorem c_kd1 {j : Nat} {Q : Int32 → Prop} (hj : j < 8) (h : Q 1) : q6_isKind (nI j) Q := by
  unfold q6_isKind
  exact pk_lt j 0 (fun h => by omega) (fun _ => pk_le 8 j (fun h => by omega) (fun _ => h))
theorem c_kd0 {a : Int32} {Q : Int32 → Prop} (hb : a < 0 ∨ nI 8 ≤ a) (h : Q 0) : q6_isKind a Q := by
  unfold q6_isKind
  refine ⟨fun _ => h, fun g => ⟨fun _ => h, fun g2 => ?_⟩⟩
  rcases hb with hb | hb
  · exact absurd hb g
  · exact absurd hb g2
theorem js_number {G : Nat → Nat → (Nat → Int64) → Prop} : JS_number HJ G := by
  intro h_size h_opened h_tal s0_row s0_made s0_size s1_row s1_made s1_size s2_row s2_made s2_size s3_row s3_made s3_size l_len l_ways l_box w_used w_kind w_size w_left w_last w_top w_wanted c_row c_made c_size t_fac t_der t_rec t_rut t_ris m_n m_order m_shelf m_opens m_lists m_listed m_work m_counts m_older m_products m_part m_parts m_ways m_used m_greaterNow m_countNow a1 hJ
  obtain ⟨n, k, σ, τ, ln, bx, hI, ⟨rfl, rfl, rfl, rfl, rfl, rfl, rfl⟩, hc, hcs, hcl, ht, ⟨rfl, rfl⟩, hmo, hms, hml⟩ := hJ
  have hn := hI.2.1
  have h1n := hI.1
  rcases ix a1 (n := 8) (by decide) with hb | ⟨j, hj, rfl⟩
  · exact c_kd0 hb (z0 (m_in0 (M := 7) (by decide) hb (z0 ⟨rfl, n, k, σ, τ, ln, bx, hI, ⟨rfl, rfl, rfl, rfl, rfl, rfl, rfl⟩, hc, hcs, hcl, ht, ⟨rfl, rfl⟩, hmo, hms, hml⟩)))
  · exact c_kd1 hj (z1 (o_numberOf hj hn h1n hc hI.2.2.2.1 (fun _ => m_in1 (M := 7) (by decide) (by omega) (z1 (m_numberOf hj hn h1n hmo hI.2.2.2.1 (fun _ => ⟨rfl, n, k, σ, τ, ln, bx, hI, ⟨rfl, rfl, rfl, rfl, rfl, rfl, rfl⟩, hc, hcs, hcl, ht, ⟨rfl, rfl⟩, hmo, hms, hml⟩))))))
theorem js_opens {G : Nat → Nat → (Nat → Int64) → Prop} : JS_opens HJ G := by
  intro h_size h_opened h_tal s0_row s0_made s0_size s1_row s1_made s1_size s2_row s2_made s2_size s3_row s3_made s3_size l_len l_ways l_box w_used w_kind w_size w_left w_last w_top w_wanted c_row c_made c_size t_fac t_der t_rec t_rut t_ris m_n m_order m_shelf m_opens m_lists m_listed m_work m_counts m_older m_products m_part m_parts m_ways m_used m_greaterNow m_countNow a1 hJ
  obtain ⟨n, k, σ, τ, ln, bx, hI, ⟨rfl, rfl, rfl, rfl, rfl, rfl, rfl⟩, hc, hcs, hcl, ht, ⟨rfl, rfl⟩, hmo, hms, hml⟩ := hJ
  have hn := hI.2.1
  have h1n := hI.1
  unfold q6_opens
  have hbad : ∀ g : a1 < (1 : Int32) ∨ nI n < a1, q7_opens (nI n) (nI k) a1 (fun r2 m_opens_2 => (-2 : Int32) = r2 ∧ JX (nI n) (nI k) (nI n) (nI n) (nI n) (nI n) (nI n) c_row s0_row s1_row s2_row s3_row l_len l_box t_fac t_der t_rec t_rut t_ris (nI n) m_opens_2 m_order m_shelf m_lists m_listed) := fun g => by
    unfold q7_opens
    exact m_in (lo := 1) (fun g1 g2 => by
      rcases g with g | g
      · exact absurd g1 (fa_of_lt g).2.1
      · exact absurd g2 (fa_of_lt g).2.1) (fun _ => y0 ⟨rfl, n, k, σ, τ, ln, bx, hI, ⟨rfl, rfl, rfl, rfl, rfl, rfl, rfl⟩, hc, hcs, hcl, ht, ⟨rfl, rfl⟩, hmo, hms, hml⟩)
  refine ⟨fun g => hbad (Or.inl g), fun g1 => ⟨fun g2 => ?_, fun g2 => hbad (Or.inr (fa_of_nle g2))⟩⟩
  obtain ⟨j, hj, rfl⟩ := nI_of2 (M := nI n) (n := n) (nI_toInt (by omega)) (fun g => g1 (by rw [Int32.lt_iff_toInt_lt] at g ⊢; have h0 : (0 : Int32).toInt = 0 := rfl; have h1 : (1 : Int32).toInt = 1 := rfl; omega)) g2
  have h1j : 1 ≤ j := by
    rcases Nat.eq_zero_or_pos j with e | e
    · subst e; exact absurd (by decide) g1
    · exact e
  unfold q7_opens
  exact m_in (lo := 1) (fun _ _ => y1 ⟨rfl, n, j, σ, τ, ln, bx, hI.op ⟨h1j, hj⟩, ⟨rfl, rfl, rfl, rfl, rfl, rfl, rfl⟩, hc, hcs, hcl, ht, ⟨rfl, rfl⟩, hmo, hms, hml⟩) (fun g => by
    rcases g with g | g
    · exact absurd g g1
    · exact absurd g2 (fa_of_lt g).2.1)
