/-! records made rounds -/
theorem pmx_ge {σ : Nat → Nat} : ∀ m q, q < m → σ q ≤ pmx σ m := by
  intro m
  induction m with
  | zero => intro q h; omega
  | succ m ih =>
    intro q h
    by_cases e : q = m
    · subst e; exact Nat.le_max_right _ _
    · exact Nat.le_trans (ih q (by omega)) (Nat.le_max_left _ _)
theorem pmx_att {σ : Nat → Nat} : ∀ m, 0 < m → ∃ q, q < m ∧ pmx σ m = σ q := by
  intro m
  induction m with
  | zero => intro h; omega
  | succ m ih =>
    intro _
    by_cases h0 : m = 0
    · subst h0; exact ⟨0, by omega, Nat.zero_max _⟩
    · obtain ⟨q, h1, h2⟩ := ih (by omega)
      by_cases e : pmx σ m ≤ σ m
      · exact ⟨m, by omega, Nat.max_eq_right e⟩
      · exact ⟨q, by omega, (Nat.max_eq_left (by omega)).trans h2⟩
def eps (σ : Nat → Nat) (n i : Nat) : Nat := if i + 1 < n ∧ σ (i + 1) ≤ pmx σ (i + 1) then σ (i + 1) else pmx σ (i + 1)
theorem eps_Pm {n : Nat} {σ : Nat → Nat} (hs : Pm n σ) : Pm n (eps σ n) := by
  have hlt : ∀ i j, i < j → j < n → eps σ n i ≠ eps σ n j := by
    intro i j hij hj e
    unfold eps at e
    by_cases a1 : σ (i + 1) ≤ pmx σ (i + 1)
    · rw [if_pos ⟨by omega, a1⟩] at e
      by_cases a2 : j + 1 < n ∧ σ (j + 1) ≤ pmx σ (j + 1)
      · rw [if_pos a2] at e
        have := hs.2 (i + 1) (j + 1) (by omega) a2.1 e
        omega
      · rw [if_neg a2] at e
        obtain ⟨q, hq, eq⟩ := pmx_att (σ := σ) (i + 1) (by omega)
        have h1 := pmx_ge (σ := σ) (j + 1) q (by omega)
        have := hs.2 (i + 1) q (by omega) (by omega) (by omega)
        omega
    · rw [if_neg (fun h => a1 h.2)] at e
      obtain ⟨q, hq, eq⟩ := pmx_att (σ := σ) (i + 1) (by omega)
      by_cases a2 : j + 1 < n ∧ σ (j + 1) ≤ pmx σ (j + 1)
      · rw [if_pos a2] at e
        have := hs.2 q (j + 1) (by omega) a2.1 (by omega)
        omega
      · rw [if_neg a2] at e
        have := pmx_ge (σ := σ) (j + 1) (i + 1) (by omega)
        omega
  refine ⟨fun i hi => ?_, fun i j hi hj e => ?_⟩
  · unfold eps
    split
    · rename_i h; exact hs.1 _ h.1
    · exact pmx_lim hs.1 (i + 1) (by omega) (by omega)
  · rcases Nat.lt_trichotomy i j with h | h | h
    · exact absurd e (hlt i j h hj)
    · exact h
    · exact absurd e.symm (hlt j i h hi)
theorem o_makeRounds {n : Nat} {row made : Nat → Int32} {σ : Nat → Nat} {Q : (Nat → Int32) → (Nat → Int32) → Prop} (hn : n ≤ 18) (h1n : 1 ≤ n) (hr : Rw n row σ) (hs : In n σ) (h : Q (fa_fill (scat σ (fun j => nI (eps σ n j)) made n) row n) (scat σ (fun j => nI (eps σ n j)) made n)) : q1_makeRounds (nI n) row made Q := by
  unfold q1_makeRounds
  refine ⟨pk_in 0 18 (by decide), ?_⟩
  refine up4 (q1_makeRounds_9 (nI n) Q) (fun i => nI (pmx σ (i + 1))) (fun i => nI i) (fun _ => row) (fun i => scat σ (fun j => nI (eps σ n j)) made i) 0 (n - 1) (Nat.zero_le _) (fun k => ?_) (fun k i _ hi ih => ?_) (by rw [show (0 : Int32).toNatClampNeg = 0 from rfl, hr 0 (by omega)]; exact congrArg nI (Nat.zero_max _).symm) rfl rfl rfl
  · unfold q1_makeRounds_9
    rw [nI_1]
    refine pk_le n (n - 1 + 1) (fun _ => ?_) (fun h => by omega)
    unfold q1_makeRounds_60
    rw [show nI n - (1 : Int32) = nI (n - 1) from pk_sub (b := 1) h1n]
    refine o_follow hn (by omega) (hr (n - 1) (by omega)) (o_makeAt hn (hs _ (by omega)) ?_)
    have e : upd (scat σ (fun j => nI (eps σ n j)) made (n - 1)) (σ (n - 1)) (nI (pmx σ (n - 1 + 1))) = scat σ (fun j => nI (eps σ n j)) made n := by
      obtain ⟨m, rfl⟩ : ∃ m, n = m + 1 := ⟨n - 1, by omega⟩
      rw [Nat.add_sub_cancel]
      show _ = upd (scat σ (fun j => nI (eps σ (m + 1) j)) made m) (σ m) (nI (eps σ (m + 1) m))
      rw [show eps σ (m + 1) m = pmx σ (m + 1) from if_neg (fun h => by omega)]
    rw [e]
    exact o_keepMade hn h
  · unfold q1_makeRounds_9
    have hb := hs (i + 1) (by omega)
    have hp := pmx_lim hs (i + 1) (by omega) (by omega)
    rw [nI_1, nI_clamp (by omega), nI_clamp (by omega), hr i (by omega), hr (i + 1) (by omega)]
    refine pk_le n (i + 1) (fun h => by omega) (fun _ => ⟨pk_in (i + 1) 18 (by omega), pk_in i 18 (by omega), pk_le (σ (i + 1)) (pmx σ (i + 1)) (fun g => ?_) (fun g => ?_)⟩)
    · unfold q1_makeRounds_45
      refine o_makeAt hn (hs i (by omega)) ?_
      rw [nI_max (by omega) (by omega), nI_1]
      rw [show scat σ (fun j => nI (eps σ n j)) made (i + 1) = upd (scat σ (fun j => nI (eps σ n j)) made i) (σ i) (nI (σ (i + 1))) by show upd _ _ (nI (eps σ n i)) = _; rw [show eps σ n i = σ (i + 1) from if_pos ⟨by omega, g⟩]] at ih
      exact ih
    · unfold q1_makeRounds_45
      refine o_makeAt hn (hs i (by omega)) ?_
      rw [nI_max (by omega) (by omega), nI_1]
      rw [show scat σ (fun j => nI (eps σ n j)) made (i + 1) = upd (scat σ (fun j => nI (eps σ n j)) made i) (σ i) (nI (pmx σ (i + 1))) by show upd _ _ (nI (eps σ n i)) = _; rw [show eps σ n i = pmx σ (i + 1) from if_neg (fun h => by omega)]] at ih
      exact ih
theorem m_toRounds {n : Nat} {row work : Nat → Int32} {σ : Nat → Nat} {Q : Int32 → (Nat → Int32) → (Nat → Int32) → Prop} (hn : n ≤ 18) (h1n : 1 ≤ n) (hr : Rw n row σ) (hs : In n σ) (h : Q 1 (fa_fill (scat σ (fun j => nI (eps σ n j)) work n) row n) (scat σ (fun j => nI (eps σ n j)) work n)) : q7_toRounds (nI n) row work Q := by
  unfold q7_toRounds
  refine up4 (q7_toRounds_4 (nI n) Q) (fun i => nI (pmx σ i)) (fun i => nI i) (fun _ => row) (fun i => scat σ (fun j => nI (eps σ n j)) work i) 0 n (Nat.zero_le _) (fun k => ?_) (fun k i _ hi ih => ?_) rfl rfl rfl rfl
  · unfold q7_toRounds_4
    refine pk_le n n (fun _ => ?_) (fun h => by omega)
    unfold q7_toRounds_90
    exact m_become hn h
  · unfold q7_toRounds_4
    have ha := hs i hi
    have hp := pmx_lim hs i (by omega) (by omega)
    have hp2 := pmx_lim hs (i + 1) (by omega) (by omega)
    have h83 : ∀ v, v = eps σ n i → q7_toRounds_83 (nI n) (fun v0 v1 v2 v3 => q7_toRounds_4 (nI n) Q k v0 v1 v2 v3) Q (nI (σ i)) (nI v) (nI (pmx σ (i + 1))) (nI i) row (scat σ (fun j => nI (eps σ n j)) work i) := fun v e => by
      unfold q7_toRounds_83
      subst e
      rw [nI_1, nI_clamp (by omega)]
      exact ⟨pk_in (σ i) 18 (by omega), ih⟩
    have h30 : q7_toRounds_30 (nI n) (fun v0 v1 v2 v3 => q7_toRounds_4 (nI n) Q k v0 v1 v2 v3) Q (nI (pmx σ (i + 1))) (nI i) row (scat σ (fun j => nI (eps σ n j)) work i) := by
      unfold q7_toRounds_30
      rw [show nI n - (1 : Int32) = nI (n - 1) from pk_sub (b := 1) h1n]
      refine pk_eq i (n - 1) (fun e => ?_) (fun e => ?_)
      · unfold q7_toRounds_56
        rw [nI_clamp (n := i) (by omega), hr i hi]
        exact ⟨pk_in i 18 (by omega), z1 (h83 _ (if_neg (fun g => by omega)).symm)⟩
      · rw [nI_1]
        refine m_isRecord hn hr hs (by omega) ⟨fun g => ?_, fun g => ?_⟩
        · unfold q7_toRounds_56
          have g2 := bI_eq0.mp g
          have g3 : σ (i + 1) ≤ pmx σ (i + 1) := by
            unfold recB at g2
            have := of_decide_eq_false g2
            omega
          rw [nI_1, nI_clamp (n := i) (by omega), nI_clamp (n := i + 1) (by omega), hr i hi, hr (i + 1) (by omega)]
          exact ⟨pk_in i 18 (by omega), z0 ⟨pk_in (i + 1) 18 (by omega), h83 _ (if_pos ⟨by omega, g3⟩).symm⟩⟩
        · unfold q7_toRounds_56
          have g2 := bI_ne0.mp g
          have g3 : pmx σ (i + 1) < σ (i + 1) := by
            unfold recB at g2
            have := of_decide_eq_true g2
            omega
          rw [nI_clamp (n := i) (by omega), hr i hi]
          exact ⟨pk_in i 18 (by omega), z1 (h83 _ (if_neg (fun g => by omega)).symm)⟩
    refine pk_le n i (fun h => by omega) (fun _ => m_isRecord hn hr hs hi ⟨fun g => ?_, fun g => ⟨pk_in i 18 (by omega), ?_⟩⟩)
    · have g2 := of_decide_eq_false (bI_eq0.mp g)
      rw [show pmx σ (i + 1) = pmx σ i from Nat.max_eq_left (by omega)] at h30
      exact h30
    · have g2 := of_decide_eq_true (bI_ne0.mp g)
      rw [nI_clamp (by omega), hr i hi]
      have e : pmx σ (i + 1) = σ i := by
        rcases g2 with g2 | g2
        · subst g2; exact Nat.zero_max _
        · exact Nat.max_eq_right (by omega)
      rw [e] at h30
      exact h30
theorem js_toRounds {G : Nat → Nat → (Nat → Int64) → Prop} : JS_toRounds HJ G := by
  intro h_size h_opened h_tal s0_row s0_made s0_size s1_row s1_made s1_size s2_row s2_made s2_size s3_row s3_made s3_size l_len l_ways l_box w_used w_kind w_size w_left w_last w_top w_wanted c_row c_made c_size t_fac t_der t_rec t_rut t_ris m_n m_order m_shelf m_opens m_lists m_listed m_work m_counts m_older m_products m_part m_parts m_ways m_used m_greaterNow m_countNow  hJ
  obtain ⟨n, k, σ, τ, ln, bx, hI, ⟨rfl, rfl, rfl, rfl, rfl, rfl, rfl⟩, hc, hcs, hcl, ht, ⟨rfl, rfl⟩, hmo, hms, hml⟩ := hJ
  have hn := hI.2.1
  have h1n := hI.1
  have hσ := hI.2.2.2.1
  obtain ⟨ρ, hρ⟩ := inv_ex hσ
  have hR : ∀ g : Nat → Int32, Rw n (scat σ (fun j => nI (eps σ n j)) g n) (fun x => eps σ n (ρ x)) := fun g => scat_Rw (ε := eps σ n) hσ hρ
  exact o_makeRounds hn h1n hc hσ.1 (m_toRounds hn h1n hmo hσ.1 ⟨rfl, n, k, fun x => eps σ n (ρ x), τ, ln, bx, hI.row (comp_Pm (inv_Pm hρ) (eps_Pm hσ)), ⟨rfl, rfl, rfl, rfl, rfl, rfl, rfl⟩, fill_Rw (hR _), hcs, hcl, ht, ⟨rfl, rfl⟩, fill_Rw (hR _), hms, hml⟩)
/-! rounds made records -/
def lf (σ : Nat → Nat) (n : Nat) : Nat → Nat
  | 0 => 0
  | h + 1 => lf σ n h + (if mxB σ n h then rl σ n h else 0)
theorem lf_le {σ : Nat → Nat} {n : Nat} : ∀ m h, h ≤ m → lf σ n h ≤ lf σ n m := by
  intro m
  induction m with
  | zero => intro h hh; rw [show h = 0 by omega]; exact Nat.le_refl _
  | succ m ih =>
    intro h hh
    by_cases e : h = m + 1
    · rw [e]; exact Nat.le_refl _
    · have := ih h (by omega)
      show _ ≤ lf σ n m + _
      omega
theorem lf_step {σ : Nat → Nat} {n h m : Nat} (hm : mxB σ n h = true) (hh : h < m) : lf σ n h + rl σ n h ≤ lf σ n m := by
  have := lf_le (σ := σ) (n := n) m (h + 1) (by omega)
  have e : lf σ n (h + 1) = lf σ n h + rl σ n h := by show _ + (if _ then _ else _) = _; rw [if_pos hm]
  omega
theorem lf_dec {σ : Nat → Nat} {n : Nat} : ∀ m p, p < lf σ n m → ∃ h t, h < m ∧ mxB σ n h = true ∧ t < rl σ n h ∧ p = lf σ n h + t := by
  intro m
  induction m with
  | zero => intro p h; exact absurd h (Nat.not_lt_zero p)
  | succ m ih =>
    intro p hp
    by_cases g : p < lf σ n m
    · obtain ⟨h, t, a, b, c, d⟩ := ih p g
      exact ⟨h, t, by omega, b, c, d⟩
    · have hp2 : p < lf σ n m + (if mxB σ n m then rl σ n m else 0) := hp
      by_cases hm : mxB σ n m = true
      · rw [if_pos hm] at hp2
        exact ⟨m, p - lf σ n m, by omega, hm, by omega, by omega⟩
      · rw [if_neg hm] at hp2
        omega
theorem lf_one {σ : Nat → Nat} {n h t h' t' : Nat} (hm : mxB σ n h = true) (ht : t < rl σ n h) (hm' : mxB σ n h' = true) (ht' : t' < rl σ n h') (e : lf σ n h + t = lf σ n h' + t') : h = h' ∧ t = t' := by
  rcases Nat.lt_trichotomy h h' with g | g | g
  · have := lf_step hm g; omega
  · subst g; exact ⟨rfl, by omega⟩
  · have := lf_step hm' g; omega
theorem itr_one {σ : Nat → Nat} {n h t t' : Nat} (hs : Pm n σ) (hh : h < n) (ht : t < rl σ n h) (ht' : t' < rl σ n h) (e : itr σ t h = itr σ t' h) : t = t' := by
  obtain ⟨-, -, -, h4⟩ := rl_spec hs hh
  have key : ∀ a b, a < b → b < rl σ n h → itr σ a h = itr σ b h → False := fun a b hab hb e2 => by
    have : itr σ a (itr σ (b - a) h) = itr σ a h := by rw [← itr_add, show b - a + a = b by omega]; exact e2.symm
    exact h4 (b - a) (by omega) (by omega) (itr_inj hs (itr_lt hs.1 hh _) hh a this)
  rcases Nat.lt_trichotomy t t' with g | g | g
  · exact (key t t' g ht' e).elim
  · exact g
  · exact (key t' t g ht e.symm).elim
theorem lead_one {σ : Nat → Nat} {n h t h' t' : Nat} (hs : Pm n σ) (hh : h < n) (hh' : h' < n) (hm : mxB σ n h = true) (ht : t < rl σ n h) (hm' : mxB σ n h' = true) (ht' : t' < rl σ n h') (e : itr σ t h = itr σ t' h') : h = h' ∧ t = t' := by
  obtain ⟨q, hq⟩ := itr_back hs hh' t'
  have e2 : itr σ (t + q) h = h' := by rw [itr_add, e]; exact hq
  have : itr σ 0 h = itr σ (t + q) h := mx_one hs hh hm (by rw [e2]; exact hm')
  have e3 : h = h' := by rw [e2] at this; exact this
  subst e3
  exact ⟨rfl, itr_one hs hh ht ht' e⟩
theorem lead_ex {σ : Nat → Nat} {n x : Nat} (hs : Pm n σ) (hx : x < n) : ∃ h t, h < n ∧ mxB σ n h = true ∧ t < rl σ n h ∧ itr σ t h = x := by
  obtain ⟨k, hk⟩ := mx_ex hs hx
  obtain ⟨q, hq⟩ := itr_back hs hx k
  have hh := itr_lt hs.1 hx k
  obtain ⟨r1, r2, r3, -⟩ := rl_spec hs hh
  refine ⟨itr σ k x, q % rl σ n (itr σ k x), hh, hk, Nat.mod_lt _ (by omega), ?_⟩
  rw [← itr_mod r3]
  exact hq
theorem lf_all {σ : Nat → Nat} {n : Nat} (hs : Pm n σ) : lf σ n n = n ∧ ∃ S : Nat → Nat, Pm n S ∧ ∀ h t, h < n → mxB σ n h = true → t < rl σ n h → S (lf σ n h + t) = itr σ t h := by
  have hS : ∀ p, ∃ x, p < lf σ n n → ∃ h t, h < n ∧ mxB σ n h = true ∧ t < rl σ n h ∧ p = lf σ n h + t ∧ x = itr σ t h := fun p => by
    by_cases hp : p < lf σ n n
    · obtain ⟨h, t, a, b, c, d⟩ := lf_dec n p hp
      exact ⟨itr σ t h, fun _ => ⟨h, t, a, b, c, d, rfl⟩⟩
    · exact ⟨0, fun h => absurd h hp⟩
  let S : Nat → Nat := fun p => Classical.choose (hS p)
  have sS : ∀ p, p < lf σ n n → ∃ h t, h < n ∧ mxB σ n h = true ∧ t < rl σ n h ∧ p = lf σ n h + t ∧ S p = itr σ t h := fun p hp => Classical.choose_spec (hS p) hp
  have sInj : ∀ p q, p < lf σ n n → q < lf σ n n → S p = S q → p = q := fun p q hp hq e => by
    obtain ⟨h, t, a, b, c, d, f⟩ := sS p hp
    obtain ⟨h', t', a', b', c', d', f'⟩ := sS q hq
    obtain ⟨e1, e2⟩ := lead_one hs a a' b c b' c' (by rw [← f, ← f', e])
    rw [d, d', e1, e2]
  have sLt : ∀ p, p < lf σ n n → S p < n := fun p hp => by
    obtain ⟨h, t, a, b, c, d, f⟩ := sS p hp
    rw [f]; exact itr_lt hs.1 a t
  have le1 : lf σ n n ≤ n := fb_holes n (lf σ n n) S sLt (fun i j hij hj e => by have := sInj i j (by omega) hj e; omega)
  have hg : ∀ x, ∃ p, x < n → p < lf σ n n ∧ S p = x := fun x => by
    by_cases hx : x < n
    · obtain ⟨h, t, a, b, c, d⟩ := lead_ex hs hx
      have hp : lf σ n h + t < lf σ n n := by have := lf_step b a; omega
      refine ⟨lf σ n h + t, fun _ => ⟨hp, ?_⟩⟩
      obtain ⟨h', t', a', b', c', d', f'⟩ := sS _ hp
      obtain ⟨e1, e2⟩ := lf_one b c b' c' d'
      rw [f', ← e1, ← e2]; exact d
    · exact ⟨0, fun h => absurd h hx⟩
  have le2 : n ≤ lf σ n n := fb_holes (lf σ n n) n (fun x => Classical.choose (hg x)) (fun x hx => (Classical.choose_spec (hg x) hx).1) (fun i j hij hj e => by
    have h1 := (Classical.choose_spec (hg i) (by omega)).2
    have h2 := (Classical.choose_spec (hg j) hj).2
    rw [e, h2] at h1
    omega)
  have en : lf σ n n = n := by omega
  rw [en] at sInj sLt sS
  refine ⟨en, S, ⟨sLt, sInj⟩, fun h t hh hm ht => ?_⟩
  have hp : lf σ n h + t < n := by have := lf_step hm hh; omega
  obtain ⟨h', t', a', b', c', d', f'⟩ := sS _ hp
  obtain ⟨e1, e2⟩ := lf_one hm ht b' c' d'
  rw [f', ← e1, ← e2]
theorem o_makeRecords {n : Nat} {row made : Nat → Int32} {σ S : Nat → Nat} {Q : (Nat → Int32) → (Nat → Int32) → Prop} (hn : n ≤ 18) (hr : Rw n row σ) (hs : Pm n σ) (hF : lf σ n n = n) (hS : ∀ h t, h < n → mxB σ n h = true → t < rl σ n h → S (lf σ n h + t) = itr σ t h) (h : ∀ made', Rw n made' S → Q (fa_fill made' row n) made') : q1_makeRecords (nI n) row made Q := by
  unfold q1_makeRecords
  refine lpI (fun k j (m : Nat → Int32) => q1_makeRecords_4 (nI n) Q k (nI (lf σ n j)) (nI j) row m) (fun j m => ∀ p, p < lf σ n j → m p = nI (S p)) 0 n made (Nat.zero_le _) (fun p hp => absurd hp (Nat.not_lt_zero p)) (fun k m hI => ?_) (fun k j m _ hj hI ih => ?_)
  · unfold q1_makeRecords_4
    refine pk_le n n (fun _ => ?_) (fun h => by omega)
    unfold q1_makeRecords_64
    exact o_keepMade hn (h m (fun p hp => hI p (by omega)))
  · unfold q1_makeRecords_4
    refine pk_le n j (fun h => by omega) (fun _ => o_leadsRound hn hr hs hj ⟨fun g => ?_, fun g => ?_⟩)
    · have hm := bI_ne0.mp g
      refine o_roundLength hn hr hs hj ?_
      have hst := lf_step (σ := σ) (n := n) hm hj
      have r1 := (rl_spec hs hj).2.1
      have e9 : lf σ n (j + 1) = lf σ n j + rl σ n j := by show _ + (if _ then _ else _) = _; rw [if_pos hm]
      refine lpI (fun k2 t (m : Nat → Int32) => q1_makeRecords_32 (nI n) (fun v0 v1 v2 v3 => q1_makeRecords_4 (nI n) Q k v0 v1 v2 v3) Q k2 (nI (lf σ n j + t)) (nI j) (nI (itr σ t j)) (nI (rl σ n j - t)) row m) (fun t m => ∀ p, p < lf σ n j + t → m p = nI (S p)) 0 (rl σ n j) m (Nat.zero_le _) hI (fun k2 m hI2 => ?_) (fun k2 t m _ ht hI2 ih2 => ?_)
      · unfold q1_makeRecords_32
        refine pk_le (rl σ n j - rl σ n j) 0 (fun _ => ?_) (fun h => by omega)
        unfold q1_makeRecords_58
        rw [nI_1, ← e9]
        exact ih m (fun p hp => hI2 p (by omega))
      · unfold q1_makeRecords_32
        have hlt := itr_lt hs.1 hj t
        refine pk_le (rl σ n j - t) 0 (fun h => by omega) (fun _ => o_makeAt hn (by omega) (o_follow hn hlt (hr _ hlt) ?_))
        rw [nI_1, show rl σ n j - t = rl σ n j - (t + 1) + 1 by omega, pk_m1]
        refine ih2 _ (fun p hp => ?_)
        by_cases e : p = lf σ n j + t
        · subst e; rw [pk_us, hS j t hj hm ht]
        · rw [pk_un e]; exact hI2 p (by omega)
    · have hm := bI_eq0.mp g
      unfold q1_makeRecords_58
      have e9 : lf σ n (j + 1) = lf σ n j := by show _ + (if _ then _ else _) = _; rw [if_neg (by rw [hm]; decide)]; rfl
      rw [nI_1, ← e9]
      exact ih m (fun p hp => hI p (by omega))
theorem m_toRecords {n : Nat} {row work : Nat → Int32} {σ S : Nat → Nat} {Q : Int32 → (Nat → Int32) → (Nat → Int32) → Prop} (hn : n ≤ 18) (hr : Rw n row σ) (hs : Pm n σ) (hF : lf σ n n = n) (hS : ∀ h t, h < n → mxB σ n h = true → t < rl σ n h → S (lf σ n h + t) = itr σ t h) (h : ∀ work', Rw n work' S → Q 1 (fa_fill work' row n) work') : q7_toRecords (nI n) row work Q := by
  unfold q7_toRecords
  refine lpI (fun k j (m : Nat → Int32) => q7_toRecords_4 (nI n) Q k (nI (lf σ n j)) (nI j) row m) (fun j m => ∀ p, p < lf σ n j → m p = nI (S p)) 0 n work (Nat.zero_le _) (fun p hp => absurd hp (Nat.not_lt_zero p)) (fun k m hI => ?_) (fun k j m _ hj hI ih => ?_)
  · unfold q7_toRecords_4
    refine pk_le n n (fun _ => ?_) (fun h => by omega)
    unfold q7_toRecords_68
    exact m_become hn (h m (fun p hp => hI p (by omega)))
  · unfold q7_toRecords_4
    refine pk_le n j (fun h => by omega) (fun _ => m_isGreatest hn hr hs hj ⟨fun g => ?_, fun g => ?_⟩)
    · have hm := bI_eq0.mp g
      unfold q7_toRecords_62
      have e9 : lf σ n (j + 1) = lf σ n j := by show _ + (if _ then _ else _) = _; rw [if_neg (by rw [hm]; decide)]; rfl
      rw [nI_1, ← e9]
      exact ih m (fun p hp => hI p (by omega))
    · have hm := bI_ne0.mp g
      refine m_roundOf hn hr hs hj ?_
      have hst := lf_step (σ := σ) (n := n) hm hj
      have r1 := (rl_spec hs hj).2.1
      have e9 : lf σ n (j + 1) = lf σ n j + rl σ n j := by show _ + (if _ then _ else _) = _; rw [if_pos hm]
      refine lpI (fun k2 t (m : Nat → Int32) => q7_toRecords_32 (nI n) (fun v0 v1 v2 v3 => q7_toRecords_4 (nI n) Q k v0 v1 v2 v3) Q k2 (nI (lf σ n j + t)) (nI j) (nI (itr σ t j)) (nI (rl σ n j)) (nI t) row m) (fun t m => ∀ p, p < lf σ n j + t → m p = nI (S p)) 0 (rl σ n j) m (Nat.zero_le _) hI (fun k2 m hI2 => ?_) (fun k2 t m _ ht hI2 ih2 => ?_)
      · unfold q7_toRecords_32
        refine pk_le (rl σ n j) (rl σ n j) (fun _ => ?_) (fun h => by omega)
        unfold q7_toRecords_62
        rw [nI_1, ← e9]
        exact ih m (fun p hp => hI2 p (by omega))
      · unfold q7_toRecords_32
        have hlt := itr_lt hs.1 hj t
        rw [nI_clamp (n := itr σ t j) (by omega), hr _ hlt, nI_clamp (by omega), nI_1, nI_1]
        refine pk_le (rl σ n j) t (fun h => by omega) (fun _ => ⟨pk_in (lf σ n j + t) 18 (by omega), pk_in (itr σ t j) 18 (by omega), ih2 _ (fun p hp => ?_)⟩)
        by_cases e : p = lf σ n j + t
        · subst e; rw [pk_us, hS j t hj hm ht]
        · rw [pk_un e]; exact hI2 p (by omega)
theorem js_toRecords {G : Nat → Nat → (Nat → Int64) → Prop} : JS_toRecords HJ G := by
  intro h_size h_opened h_tal s0_row s0_made s0_size s1_row s1_made s1_size s2_row s2_made s2_size s3_row s3_made s3_size l_len l_ways l_box w_used w_kind w_size w_left w_last w_top w_wanted c_row c_made c_size t_fac t_der t_rec t_rut t_ris m_n m_order m_shelf m_opens m_lists m_listed m_work m_counts m_older m_products m_part m_parts m_ways m_used m_greaterNow m_countNow  hJ
  obtain ⟨n, k, σ, τ, ln, bx, hI, ⟨rfl, rfl, rfl, rfl, rfl, rfl, rfl⟩, hc, hcs, hcl, ht, ⟨rfl, rfl⟩, hmo, hms, hml⟩ := hJ
  have hn := hI.2.1
  have h1n := hI.1
  have hσ := hI.2.2.2.1
  obtain ⟨hF, S, hSp, hS⟩ := lf_all hσ
  exact o_makeRecords hn hc hσ hF hS (fun made' h1 => m_toRecords hn hmo hσ hF hS (fun work' h2 => ⟨rfl, n, k, S, τ, ln, bx, hI.row hSp, ⟨rfl, rfl, rfl, rfl, rfl, rfl, rfl⟩, fill_Rw h1, hcs, hcl, ht, ⟨rfl, rfl⟩, fill_Rw h2, hms, hml⟩))
