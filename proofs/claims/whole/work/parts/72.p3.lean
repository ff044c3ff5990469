/-! the reference counts shape by shape -/
theorem rgB_iff {m : Nat} {p : Nat → Bool} : rgB m p = true ↔ ∀ i, i < m → p i = true := by
  unfold rgB
  rw [List.all_eq_true]
  exact ⟨fun h i hi => h i (List.mem_range.mpr hi), fun h i hi => h i (List.mem_range.mp hi)⟩
theorem stepB_St {a b : List Nat} (h : stepB a b = true) : StP (pf a) a.length (pf b) b.length (kep a) := by
  unfold stepB at h
  simp only [Bool.and_eq_true, decide_eq_true_iff, rgB_iff] at h
  obtain ⟨⟨⟨⟨⟨⟨⟨⟨⟨h1, h2⟩, h3⟩, h4⟩, h5⟩, h6⟩, h7⟩, h8⟩, h9⟩, h10⟩ := h
  exact ⟨h1, h2, h3, h4, h5, h6, h7, h8, h9, h10⟩
theorem lastB_iff {a : List Nat} (h : lastB a = true) : ∀ i, i < a.length → pf a i = 1 := by
  unfold lastB at h
  rw [rgB_iff] at h
  exact fun i hi => of_decide_eq_true (h i hi)
theorem chB_step : ∀ (L : List (List Nat)) (t : Nat), chB L = true → t + 1 < L.length → stepB (L.getD t []) (L.getD (t + 1) []) = true := by
  intro L
  induction L with
  | nil => intro t _ h; simp at h
  | cons a L ih =>
    intro t hc ht
    cases L with
    | nil => simp at ht
    | cons b L =>
      simp only [chB, Bool.and_eq_true] at hc
      cases t with
      | zero => exact hc.1
      | succ t => exact ih t hc.2 (by simpa using ht)
theorem chB_last : ∀ (L : List (List Nat)) (t : Nat), chB L = true → t + 1 = L.length → lastB (L.getD t []) = true := by
  intro L
  induction L with
  | nil => intro t _ h; simp at h
  | cons a L ih =>
    intro t hc ht
    cases L with
    | nil =>
      have : t = 0 := by simpa using ht
      subst this; exact hc
    | cons b L =>
      simp only [chB, Bool.and_eq_true] at hc
      cases t with
      | zero => simp at ht
      | succ t => exact ih t hc.2 (by simpa using ht)
theorem psm_app (k n v : Nat) : ∀ a b : List (List Nat), psm k n v (a ++ b) = psm k n v a + psm k n v b := by
  intro a b
  induction a with
  | nil => simp [psm]
  | cons x a ih => simp only [List.cons_append, psm, ih, Nat.add_assoc]
theorem psm_take {k n v t : Nat} {L : List (List Nat)} (ht : t < L.length) : psm k n v (L.take (t + 1)) = psm k n v (L.take t) + (if keyP k (L.getD t []) = v then amtP k n (L.getD t []) else 0) := by
  rw [List.take_add_one, psm_app, List.getElem?_eq_getElem ht, List.getD_eq_getElem?_getD, List.getElem?_eq_getElem ht]
  simp [psm]
theorem VB_ok {n : Nat} {a : List Nat} (h : VB n a = true) : Fo (pf a) a.length ∧ pf a 0 ≤ n ∧ hkR (pf a) a.length a.length = hkC (pf a) a.length a.length ∧ 0 < hkR (pf a) a.length a.length ∧ hkR (pf a) a.length a.length < 2 ^ 62 ∧ smS (pf a) a.length < 2 ^ 62 ∧ tlS (pf a) a.length < 211 ∧ onS (pf a) a.length ≤ n := by
  unfold VB at h
  simp only [Bool.and_eq_true, decide_eq_true_iff, rgB_iff] at h
  obtain ⟨⟨⟨⟨⟨⟨⟨⟨⟨h1, h2⟩, h3⟩, h4⟩, h5⟩, h6⟩, h7⟩, h8⟩, h9⟩, h10⟩ := h
  exact ⟨⟨h1, h2, h3⟩, h4, h5, h6, h7, h8, h9, h10⟩
theorem PL_VB {n t : Nat} (hn : n < 19) (ht : t < (PL n).length) : VB n ((PL n).getD t []) = true := by
  have := List.all_eq_true.mp (PL_v n hn) ((PL n).getD t []) (by
    rw [List.getD_eq_getElem?_getD, List.getElem?_eq_getElem ht]
    exact List.getElem_mem ht)
  exact this
theorem PL_0 {n : Nat} (h1 : 1 ≤ n) (hn : n < 19) : 0 < (PL n).length ∧ (PL n).getD 0 [] = [n] := by
  have h := PL_hd (n - 1) (by omega)
  rw [show n - 1 + 1 = n by omega] at h
  cases e : PL n with
  | nil => rw [e] at h; cases h
  | cons a L => rw [e] at h; cases h; exact ⟨by simp, rfl⟩
theorem keyP_lt {k n : Nat} {a : List Nat} (hn : n < 19) (h : VB n a = true) : keyP k a < 211 ∧ (k ≠ 7 → keyP k a ≤ n) := by
  obtain ⟨h1, h2, h3, h4, h5, h6, h7, h8⟩ := VB_ok h
  unfold keyP
  split
  · exact ⟨by omega, fun _ => h8⟩
  · split
    · rename_i e; exact ⟨h7, fun g => absurd e g⟩
    · exact ⟨by omega, fun _ => h2⟩
theorem psm_z {k n v : Nat} : ∀ L : List (List Nat), (∀ a ∈ L, keyP k a ≠ v) → psm k n v L = 0 := by
  intro L
  induction L with
  | nil => intro _; rfl
  | cons a L ih =>
    intro h
    simp only [psm]
    rw [if_neg (h a List.mem_cons_self), ih (fun b hb => h b (List.mem_cons_of_mem _ hb))]
theorem m_shapes {n k : Nat} {pr c : Nat → Int64} {pt : Nat → Int32} {pl : Int32} {Q : (Nat → Int64) → (Nat → Int32) → Int32 → Prop} (hk : k = 3 ∨ k = 4 ∨ k = 6 ∨ k = 7) (h1n : 1 ≤ n) (hn : n ≤ 18) (hpr : ∀ i, i < 19 → pr i = lN (FAC i)) (h : ∀ c' p' l', (∀ v, v < 211 → c' v = lN (psm k n v (PL n))) → Q c' p' l') : q7_countByShapes (nI n) pr c pt pl (nI k) Q := by
  unfold q7_countByShapes
  obtain ⟨hlen, hhd⟩ := PL_0 h1n (show n < 19 by omega)
  have hch := PL_ch (n - 1) (by omega)
  rw [show n - 1 + 1 = n by omega] at hch
  refine lpI (fun k2 j (c : Nat → Int64) => q7_countByShapes_2 (nI n) pr Q k2 (nI k) (nI j) c pt pl) (fun j c => ∀ v, v < j → c v = 0) 0 211 c (by decide) (fun v hv => by omega) (fun k2 c hZ => ?_) (fun k2 j c _ hj hI ih => ?_)
  · unfold q7_countByShapes_2
    refine pk_lt 210 211 (fun _ => ?_) (fun g => by omega)
    unfold q7_countByShapes_22
    refine ⟨pk_in 0 18 (by decide), ?_⟩
    have hst : ∃ k3, q7_countByShapes_39 (nI n) pr Q k3 (nI k) (if 0 < (PL n).length then 1 else 0) c (upd pt (0 : Int32).toNatClampNeg (nI n)) 1 := by
      refine lpI (fun k3 t (s : (Nat → Int64) × (Nat → Int32) × Int32) => q7_countByShapes_39 (nI n) pr Q k3 (nI k) (if t < (PL n).length then 1 else 0) s.1 s.2.1 s.2.2) (fun t s => (∀ v, v < 211 → s.1 v = lN (psm k n v ((PL n).take t))) ∧ (t < (PL n).length → PA s.2.1 (pf ((PL n).getD t [])) ((PL n).getD t []).length ∧ s.2.2 = nI ((PL n).getD t []).length)) 0 (PL n).length (c, upd pt (0 : Int32).toNatClampNeg (nI n), 1) (Nat.zero_le _) ⟨fun v hv => hZ v hv, fun _ => ?_⟩ (fun k3 s hI => ?_) (fun k3 t s _ ht hI ih => ?_)
      · rw [hhd]
        refine ⟨fun i hi => ?_, rfl⟩
        have : i = 0 := by simpa using hi
        subst this
        show upd pt 0 (nI n) 0 = nI n
        exact pk_us
      · unfold q7_countByShapes_39
        rw [if_neg (Nat.lt_irrefl _)]
        refine z0 (h _ _ _ (fun v hv => ?_))
        rw [hI.1 v hv, List.take_length]
      · obtain ⟨c, p, l⟩ := s
        obtain ⟨ha, hb⟩ := hI
        obtain ⟨hb1, hb2⟩ := hb ht
        dsimp only at ha hb1 hb2 ⊢
        subst hb2
        have hv := PL_VB (show n < 19 by omega) ht
        obtain ⟨v1, v2, v3, v4, v5, v6, v7, v8⟩ := VB_ok hv
        obtain ⟨key1, -⟩ := keyP_lt (k := k) (show n < 19 by omega) hv
        have htk := fun v => psm_take (k := k) (n := n) (v := v) ht
        generalize hA : (PL n).getD t [] = A at hb1 v1 v2 v3 v4 v5 v6 v7 v8 key1 htk
        unfold q7_countByShapes_39
        rw [if_pos ht]
        refine z1 (m_shape (by omega) hb1 v1 ?_)
        have hkey : (if k = 3 then onS (pf A) A.length else if k = 7 then tlS (pf A) A.length else pf A 0) = keyP k A := rfl
        rw [hkey]
        have h71 : ∀ am, am = amtP k n A → q7_countByShapes_71 (nI n) pr (fun v0 v1 v2 v3 v4 => q7_countByShapes_39 (nI n) pr Q k3 v0 v1 v2 v3 v4) Q (nI (keyP k A)) (c (nI (keyP k A)).toNatClampNeg) (lN am) (nI k) c p (nI A.length) := fun am e => by
          subst e
          unfold q7_countByShapes_71
          rw [nI_clamp (by omega), ha _ key1, lN_add]
          refine ⟨pk_in (keyP k A) 211 key1, ?_⟩
          have hc2 : ∀ v, v < 211 → vp_updL c (keyP k A) (lN (psm k n (keyP k A) ((PL n).take t) + amtP k n A)) v = lN (psm k n v ((PL n).take (t + 1))) := fun v hv => by
            rw [htk v]
            by_cases e : v = keyP k A
            · subst e; rw [pk_uLs, if_pos rfl]
            · rw [pk_uLn e, ha v hv, if_neg (fun g => e g.symm)]; rfl
          by_cases hlast : t + 1 = (PL n).length
          · have hl := chB_last _ t hch hlast
            rw [hA] at hl
            refine m_last hb1 v1.2.1 (lastB_iff hl) ?_
            have := ih (_, p, 0) ⟨hc2, fun g => by omega⟩
            rw [if_neg (by omega)] at this
            exact this
          · have hs := stepB_St (chB_step _ t hch (by omega))
            rw [hA] at hs
            refine m_next hb1 v1 hs (fun p' hp' => ?_)
            have := ih (_, p', nI ((PL n).getD (t + 1) []).length) ⟨hc2, fun _ => ⟨hp', rfl⟩⟩
            rw [if_pos (by omega)] at this
            exact this
        refine ⟨pk_in (keyP k A) 211 key1, pk_ne k 6 (fun g => m_byRounds hn hpr hb1 v1 (h71 _ ?_)) (fun g => m_byFillings hn hpr hb1 v1 v4 (by omega) (h71 _ ?_))⟩
        · unfold amtP; rw [if_neg g]
        · unfold amtP; rw [if_pos g]
    rw [if_pos hlen] at hst
    exact hst
  · unfold q7_countByShapes_2
    rw [nI_1, nI_clamp (by omega)]
    refine pk_lt 210 j (fun g => by omega) (fun _ => ⟨pk_in j 211 hj, ih _ (fun v hv => ?_)⟩)
    by_cases e : v = j
    · subst e; exact pk_uLs
    · rw [pk_uLn e]; exact hI v (by omega)
/-- so many orders of n things with the number v of the kind k -/
def CNT (k n v : Nat) : Nat := if k < 3 ∨ k = 5 then CNt k n v else psm k n v (PL n)
theorem m_findCounts {n k : Nat} {c o pr : Nat → Int64} {pt : Nat → Int32} {pl : Int32} {Q : (Nat → Int64) → (Nat → Int64) → (Nat → Int64) → (Nat → Int32) → Int32 → Prop} (hk : k < 8) (h1n : 1 ≤ n) (hn : n ≤ 18) (h : ∀ c' o' pr' pt' pl', (∀ v, v < 211 → c' v = lN (CNT k n v)) → (∀ i, i < 19 → pr' i = lN (FAC i)) → Q c' o' pr' pt' pl') : q7_findCounts (nI n) c o pr pt pl (nI k) Q := by
  unfold q7_findCounts
  refine m_layProducts (fun pr' hp => pk_lt k 3 (fun g => ?_) (fun g => pk_ne k 5 (fun g2 => ?_) (fun g2 => ?_)))
  · unfold q7_findCounts_14
    refine m_things (by omega) h1n hn (fun c' o' hc => h _ _ _ _ _ (fun v hv => ?_) hp)
    rw [hc v hv]; unfold CNT; rw [if_pos (Or.inl g)]
  · refine m_shapes (by omega) h1n hn hp (fun c' p' l' hc => h _ _ _ _ _ (fun v hv => ?_) hp)
    rw [hc v hv]; unfold CNT; rw [if_neg (by omega)]
  · unfold q7_findCounts_14
    refine m_things (by omega) h1n hn (fun c' o' hc => h _ _ _ _ _ (fun v hv => ?_) hp)
    rw [hc v hv]; unfold CNT; rw [if_pos (Or.inr g2)]
