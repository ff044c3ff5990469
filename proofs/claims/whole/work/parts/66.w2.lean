/-! the reference goes along a row -/
theorem m_layProducts {t0 : Nat → Int64} {Q : (Nat → Int64) → Prop} (h : ∀ t : Nat → Int64, (∀ i, i < 19 → t i = lN (FAC i)) → Q t) : q7_layProducts t0 Q := by
  unfold q7_layProducts
  refine ⟨pk_in 0 19 (by decide), ?_⟩
  refine lpI (fun k j (t : Nat → Int64) => q7_layProducts_9 Q k (nI j) t) (fun j t => ∀ i, i < j → t i = lN (FAC i)) 1 19 _ (by decide) (fun i hi => ?_) (fun k t hI => ?_) (fun k j t h1 hj hI ih => ?_)
  · have : i = 0 := by omega
    subst this; rfl
  · unfold q7_layProducts_9
    exact pk_lt 18 19 (fun _ => h t hI) (fun h => by omega)
  · unfold q7_layProducts_9
    have e1 : nI j - (1 : Int32) = nI (j - 1) := pk_sub (b := 1) (by omega)
    rw [e1, nI_clamp (by omega), nI_clamp (by omega), nI_l (by omega), nI_1]
    refine pk_lt 18 j (fun h => by omega) (fun _ => ⟨pk_in (j - 1) 19 (by omega), pk_in j 19 (by omega), ih _ (fun i hi => ?_)⟩)
    by_cases e : i = j
    · subst e
      rw [pk_uLs, hI (i - 1) (by omega), lN_mul]
      have := FAC_s (i - 1) (by omega)
      rw [show i - 1 + 1 = i by omega] at this
      rw [this]
    · rw [pk_uLn e]; exact hI i (by omega)
def wA (m g w : Nat) : Nat := (19 * m + g) * 19 + w
theorem m_wayAt {m g w : Nat} {Q : Int32 → Prop} (h : Q (nI (wA m g w))) : q7_wayAt (nI m) (nI g) (nI w) Q := by
  unfold q7_wayAt
  rw [show (19 : Int32) = nI 19 from rfl, pk_mul, nI_add, pk_mul, nI_add]
  exact h
def wyO (kd n : Nat) (ways : Nat → Int64) (m : Nat) : Prop := ∀ g w, g ≤ m → w ≤ n → ways (wA m g w) = lN (WV kd m g w)
theorem m_50 {kd n m g w : Nat} {ways : Nat → Int64} {Q : Int64 → Prop} (hn : n ≤ 18) (h1 : 1 ≤ m) (hm : m ≤ n) (hg : g ≤ m - 1) (hw : w ≤ n) (ho : wyO kd n ways (m - 1)) (h : Q (lN (WV kd (m - 1) g w))) : q7_waysBy_50 ways Q (nI g) (nI m) (nI w) := by
  unfold q7_waysBy_50
  rw [show nI m - (1 : Int32) = nI (m - 1) from pk_sub (b := 1) h1]
  have hb : wA (m - 1) g w < 6859 := by unfold wA; omega
  refine ⟨fun _ => m_wayAt ⟨pk_in (wA (m - 1) g w) 6859 hb, ?_⟩, fun g => absurd (nI_pos' (by omega)) g⟩
  rw [nI_clamp (by omega), ho g w hg hw]
  exact h
theorem m_50n {g m : Int32} {ways : Nat → Int64} {Q : Int64 → Prop} (h : Q 0) : q7_waysBy_50 ways Q g m (nI 0 - 1) := by
  unfold q7_waysBy_50
  exact ⟨fun g => absurd g (by decide), fun _ => h⟩
theorem m_waysBy {kd n m g w j : Nat} {ways : Nat → Int64} {Q : Int64 → Prop} (hk : kd = 1 ∨ kd = 2) (hn : n ≤ 18) (hm : m ≤ n) (hg : g ≤ m) (hw : w ≤ n) (hj : j < m) (ho : wyO kd n ways (m - 1)) (h : Q (lN (wt kd m g w j))) : q7_waysBy ways (kI kd) (nI m) (nI g) (nI w) (nI j) Q := by
  unfold q7_waysBy
  rw [pk_sub hg]
  have e1 : nI m - (1 : Int32) - nI j = nI (m - 1 - j) := by rw [show nI m - (1 : Int32) = nI (m - 1) from pk_sub (b := 1) (by omega), pk_sub (by omega)]
  have h40 : ∀ x : Int32, (∀ v, v ≤ n → x = nI v → Q (lN (WV kd (m - 1) (m - 1 - j) v))) → (x = nI 0 - 1 → Q 0) → ((∃ v, v ≤ n ∧ x = nI v) ∨ x = nI 0 - 1) → q7_waysBy_40 ways Q (nI m) (nI j) x := fun x q1 q0 hx => by
    unfold q7_waysBy_40
    rw [e1]
    rcases hx with ⟨v, hv, rfl⟩ | rfl
    · exact m_50 hn (by omega) hm (by omega) hv ho (q1 v hv rfl)
    · exact m_50n (q0 rfl)
  have hsub : ∀ x : Int32, x = nI w - 1 → (∃ v, v ≤ n ∧ x = nI v) ∨ x = nI 0 - 1 := fun x e => by
    by_cases w0 : w = 0
    · subst w0; exact Or.inr e
    · exact Or.inl ⟨w - 1, by omega, by rw [e]; exact pk_sub (b := 1) (by omega)⟩
  have hpred : ∀ v, v ≤ n → nI w - (1 : Int32) = nI v → w ≠ 0 ∧ v = w - 1 := fun v hv e => by
    by_cases w0 : w = 0
    · subst w0
      have : (nI 0 - (1 : Int32)).toInt = (nI v).toInt := by rw [e]
      rw [nI_toInt (by omega), show (nI 0 - (1 : Int32)).toInt = -1 from by decide] at this
      omega
    · rw [show nI w - (1 : Int32) = nI (w - 1) from pk_sub (b := 1) (by omega), nI_eq (by omega) (by omega)] at e
      exact ⟨w0, e.symm⟩
  have hzero : nI w - (1 : Int32) = nI 0 - 1 → w = 0 := fun e => by
    have : (nI w - (1 : Int32)).toInt = (nI 0 - (1 : Int32)).toInt := by rw [e]
    rw [show (nI 0 - (1 : Int32)).toInt = -1 from by decide, show (nI w - (1 : Int32)) = nI w - nI 1 from rfl, pk_sub_toInt (by omega) (by omega)] at this
    omega
  refine pk_lt j (m - g) (fun e => ?_) (fun e => ?_)
  · have hno : ¬ m ≤ g + j := by omega
    unfold q7_waysBy_13
    refine z0 ?_
    unfold q7_waysBy_27
    rw [show nI w - (0 : Int32) = nI w from Int32.sub_zero _]
    rcases hk with rfl | rfl
    · refine ⟨fun g => absurd g (by decide), fun _ => z0 (m_50 hn (by omega) hm (by omega) hw ho ?_)⟩
      unfold wt at h
      rw [if_pos rfl, if_neg hno] at h
      exact h
    · refine ⟨fun _ => h40 _ (fun v hv ev => ?_) (fun ev => ?_) (Or.inl ⟨w, hw, rfl⟩), fun g => absurd rfl g⟩
      · have : v = w := ((nI_eq (by omega) (by omega)).mp ev).symm
        subst this
        unfold wt at h
        rw [if_neg (by decide), if_pos rfl, if_neg hno] at h
        show Q (lN (RIS (m - 1) (m - 1 - (m - 1 - j)) v))
        rw [show m - 1 - (m - 1 - j) = j by omega]
        exact h
      · have : (nI w).toInt = (nI 0 - (1 : Int32)).toInt := by rw [ev]
        rw [nI_toInt (by omega), show (nI 0 - (1 : Int32)).toInt = -1 from by decide] at this
        omega
  · have hyes : m ≤ g + j := by omega
    unfold q7_waysBy_13
    refine z1 ?_
    unfold q7_waysBy_27
    rcases hk with rfl | rfl
    · refine ⟨fun g => absurd g (by decide), fun _ => z1 (h40 _ (fun v hv ev => ?_) (fun ev => ?_) (hsub _ rfl))⟩
      · obtain ⟨w0, rfl⟩ := hpred v hv ev
        unfold wt at h
        rw [if_pos rfl, if_pos hyes, if_neg w0] at h
        exact h
      · unfold wt at h
        rw [if_pos rfl, if_pos hyes, if_pos (hzero ev)] at h
        exact h
    · refine ⟨fun _ => h40 _ (fun v hv ev => ?_) (fun ev => ?_) (hsub _ rfl), fun g => absurd rfl g⟩
      · obtain ⟨w0, rfl⟩ := hpred v hv ev
        unfold wt at h
        rw [if_neg (by decide), if_pos rfl, if_pos hyes, if_neg w0] at h
        show Q (lN (RIS (m - 1) (m - 1 - (m - 1 - j)) (w - 1)))
        rw [show m - 1 - (m - 1 - j) = j by omega]
        exact h
      · unfold wt at h
        rw [if_neg (by decide), if_pos rfl, if_pos hyes, if_pos (hzero ev)] at h
        exact h
theorem WV_0 {kd w : Nat} (hk : kd = 1 ∨ kd = 2) (hw : w ≤ 18) : WV kd 0 0 w = if w = 0 then 1 else 0 := by
  have h1 : ∀ w, w < 19 → WV 1 0 0 w = if w = 0 then 1 else 0 := by decide +kernel
  have h2 : ∀ w, w < 19 → WV 2 0 0 w = if w = 0 then 1 else 0 := by decide +kernel
  rcases hk with rfl | rfl
  · exact h1 w (by omega)
  · exact h2 w (by omega)
theorem m_layWays {kd n : Nat} {w0 : Nat → Int64} {Q : (Nat → Int64) → Prop} (hk : kd = 1 ∨ kd = 2) (hn : n ≤ 18) (h : ∀ ways : Nat → Int64, (∀ r, r ≤ n → wyO kd n ways r) → Q ways) : q7_layWays (nI n) w0 (kI kd) Q := by
  unfold q7_layWays
  refine lpI (fun k j (ways : Nat → Int64) => q7_layWays_2 (nI n) Q k (kI kd) (nI j) ways) (fun j ways => ∀ i, i < j → ways i = 0) 0 6859 w0 (by decide) (fun i hi => by omega) (fun k ways hZ => ?_) (fun k j ways _ hj hI ih => ?_)
  · unfold q7_layWays_2
    refine pk_le 6859 6859 (fun _ => ?_) (fun h => by omega)
    unfold q7_layWays_22
    refine ⟨pk_in 0 6859 (by decide), ?_⟩
    refine lpI (fun k m (ways : Nat → Int64) => q7_layWays_31 (nI n) Q k (kI kd) (nI m) ways) (fun m ways => ∀ r, r < m → wyO kd n ways r) 1 (n + 1) _ (by omega) (fun r hr g w hg hw => ?_) (fun k ways hI => ?_) (fun k m ways h1m hm hI ih => ?_)
    · have er : r = 0 := by omega
      subst er
      have eg : g = 0 := by omega
      subst eg
      rw [WV_0 hk (by omega), show wA 0 0 w = w by unfold wA; omega, show (0 : Int32).toNatClampNeg = 0 from rfl]
      by_cases e : w = 0
      · subst e; rfl
      · rw [if_neg e, pk_uLn e, hZ w (by omega)]; rfl
    · unfold q7_layWays_31
      exact pk_lt n (n + 1) (fun _ => h ways (fun r hr => hI r (by omega))) (fun h => by omega)
    · unfold q7_layWays_31
      refine pk_lt n m (fun h => by omega) (fun _ => ?_)
      refine lpI (fun k2 g (ways : Nat → Int64) => q7_layWays_41 (nI n) (fun v0 v1 v2 => q7_layWays_31 (nI n) Q k v0 v1 v2) Q k2 (kI kd) (nI m) (nI g) ways) (fun g ways => (∀ r, r < m → wyO kd n ways r) ∧ (∀ g' w, g' < g → w ≤ n → ways (wA m g' w) = lN (WV kd m g' w))) 0 (m + 1) ways (by omega) ⟨hI, fun g' w hg => by omega⟩ (fun k2 ways hI2 => ?_) (fun k2 g ways _ hg hI2 ih2 => ?_)
      · unfold q7_layWays_41
        refine pk_lt m (m + 1) (fun _ => ?_) (fun h => by omega)
        unfold q7_layWays_118
        rw [nI_1]
        refine ih ways (fun r hr => ?_)
        by_cases e : r = m
        · subst e; exact fun g w hg hw => hI2.2 g w (by omega) hw
        · exact hI2.1 r (by omega)
      · unfold q7_layWays_41
        refine pk_lt m g (fun h => by omega) (fun _ => ?_)
        refine lpI (fun k3 w (ways : Nat → Int64) => q7_layWays_49 (nI n) (fun v0 v1 v2 => q7_layWays_31 (nI n) Q k v0 v1 v2) (fun v0 v1 v2 v3 => q7_layWays_41 (nI n) (fun v0 v1 v2 => q7_layWays_31 (nI n) Q k v0 v1 v2) Q k2 v0 v1 v2 v3) Q k3 (kI kd) (nI m) (nI g) (nI w) ways) (fun w ways => (∀ r, r < m → wyO kd n ways r) ∧ (∀ g' w, g' < g → w ≤ n → ways (wA m g' w) = lN (WV kd m g' w)) ∧ (∀ w', w' < w → ways (wA m g w') = lN (WV kd m g w'))) 0 (n + 1) ways (by omega) ⟨hI2.1, hI2.2, fun w' hw => by omega⟩ (fun k3 ways hI3 => ?_) (fun k3 w ways _ hw hI3 ih3 => ?_)
        · unfold q7_layWays_49
          refine pk_lt n (n + 1) (fun _ => ?_) (fun h => by omega)
          unfold q7_layWays_112
          rw [nI_1]
          refine ih2 ways ⟨hI3.1, fun g' w hg' hw => ?_⟩
          by_cases e : g' = g
          · subst e; exact hI3.2.2 w (by omega)
          · exact hI3.2.1 g' w (by omega) hw
        · unfold q7_layWays_49
          refine pk_lt n w (fun h => by omega) (fun _ => ?_)
          have key : ∃ k4, (fun k4 (a : Int64) (b : Int32) => q7_layWays_64 (nI n) (fun v0 v1 v2 => q7_layWays_31 (nI n) Q k v0 v1 v2) (fun v0 v1 v2 v3 => q7_layWays_41 (nI n) (fun v0 v1 v2 => q7_layWays_31 (nI n) Q k v0 v1 v2) Q k2 v0 v1 v2 v3) (fun v0 v1 v2 v3 v4 => q7_layWays_49 (nI n) (fun v0 v1 v2 => q7_layWays_31 (nI n) Q k v0 v1 v2) (fun v0 v1 v2 v3 => q7_layWays_41 (nI n) (fun v0 v1 v2 => q7_layWays_31 (nI n) Q k v0 v1 v2) Q k2 v0 v1 v2 v3) Q k3 v0 v1 v2 v3 v4) Q k4 (kI kd) (nI m) (nI g) (nI w) a b ways) k4 0 0 := by
            refine up2 (fun k4 (a : Int64) (b : Int32) => q7_layWays_64 (nI n) (fun v0 v1 v2 => q7_layWays_31 (nI n) Q k v0 v1 v2) (fun v0 v1 v2 v3 => q7_layWays_41 (nI n) (fun v0 v1 v2 => q7_layWays_31 (nI n) Q k v0 v1 v2) Q k2 v0 v1 v2 v3) (fun v0 v1 v2 v3 v4 => q7_layWays_49 (nI n) (fun v0 v1 v2 => q7_layWays_31 (nI n) Q k v0 v1 v2) (fun v0 v1 v2 v3 => q7_layWays_41 (nI n) (fun v0 v1 v2 => q7_layWays_31 (nI n) Q k v0 v1 v2) Q k2 v0 v1 v2 v3) Q k3 v0 v1 v2 v3 v4) Q k4 (kI kd) (nI m) (nI g) (nI w) a b ways) (fun j => lN (wtS kd m g w j)) (fun j => nI j) 0 m (by omega) (fun k4 => ?_) (fun k4 j _ hj ih4 => ?_) rfl rfl
            · unfold q7_layWays_64
              refine pk_le m m (fun _ => ?_) (fun h => by omega)
              unfold q7_layWays_92
              have hb : wA m g w < 6859 := by unfold wA; omega
              refine m_wayAt ⟨pk_in (wA m g w) 6859 hb, ?_⟩
              rw [nI_1, nI_clamp (by omega)]
              have eT : wtS kd m g w m = WV kd m g w := by
                have := TW_sum (kd := kd) (m := m) (g := g) (w := w) (by omega) h1m (by omega) (by omega) (by omega)
                rw [← this]
                unfold TW
                rw [if_neg (by omega)]
              rw [eT]
              refine ih3 _ ⟨fun r hr g' w' hg' hw' => ?_, fun g' w' hg' hw' => ?_, fun w' hw' => ?_⟩
              · rw [pk_uLn (by unfold wA; omega)]; exact hI3.1 r hr g' w' hg' hw'
              · rw [pk_uLn (by unfold wA; omega)]; exact hI3.2.1 g' w' hg' hw'
              · by_cases e : w' = w
                · subst e; exact pk_uLs
                · rw [pk_uLn (by unfold wA; omega)]; exact hI3.2.2 w' (by omega)
            · unfold q7_layWays_64
              refine pk_le m j (fun h => by omega) (fun _ => m_waysBy hk hn (by omega) (by omega) (by omega) hj (hI3.1 (m - 1) (by omega)) ?_)
              rw [lN_add, nI_1]
              exact ih4
          exact key
  · unfold q7_layWays_2
    rw [nI_1, nI_clamp (by omega)]
    refine pk_le 6859 j (fun h => by omega) (fun _ => ⟨pk_in j 6859 hj, ih _ (fun i hi => ?_)⟩)
    by_cases e : i = j
    · subst e; exact pk_uLs
    · rw [pk_uLn e]; exact hI i (by omega)
def kT (kd : Nat) : Nat := if kd = 3 then 1 else kd
theorem m_beginRow {kd n : Nat} {pr wy : Nat → Int64} {u g c a2 : Int32} {Q : (Nat → Int64) → (Nat → Int64) → Int32 → Int32 → Int32 → Prop} (hk : kd = 1 ∨ kd = 2 ∨ kd = 3) (hn : n ≤ 18) (h : ∀ pr' wy' : Nat → Int64, (∀ i, i < 19 → pr' i = lN (FAC i)) → (∀ r, r ≤ n → wyO (kT kd) n wy' r) → Q pr' wy' 0 0 a2) : q7_beginRow (nI n) pr wy u g c (kI kd) a2 Q := by
  unfold q7_beginRow
  refine m_layProducts (fun pr' hp => ?_)
  rcases hk with rfl | rfl | rfl
  · refine ⟨fun _ => ?_, fun e => absurd e (by decide)⟩
    unfold q7_beginRow_15
    exact m_layWays (kd := 1) (Or.inl rfl) hn (fun wy' hw => h pr' wy' hp hw)
  · refine ⟨fun _ => ?_, fun e => absurd e (by decide)⟩
    unfold q7_beginRow_15
    exact m_layWays (kd := 2) (Or.inr rfl) hn (fun wy' hw => h pr' wy' hp hw)
  · refine ⟨fun e => absurd rfl e, fun _ => ?_⟩
    unfold q7_beginRow_15
    exact m_layWays (kd := 1) (Or.inl rfl) hn (fun wy' hw => h pr' wy' hp hw)
def MW (kd n i : Nat) (s : WSt) (mu gn cn : Int32) : Prop := (∃ msk, mu = nI msk ∧ msk < 2 ^ 18 ∧ ∀ y, msk.testBit y = s.1 y) ∧ (kd ≠ 3 → 0 < i → gn = nI s.2.2.2.1) ∧ (kd ≠ 3 → cn = nI s.2.2.2.2)
theorem g_le {kd n i : Nat} {s : WSt} (hk : kd = 1 ∨ kd = 2) (h : WInv kd n i s) : s.2.2.2.1 ≤ n - i := by
  obtain ⟨hi, hr, hb, ht, h1, h2, -⟩ := h
  rcases hk with rfl | rfl
  · obtain ⟨hf, hg⟩ := h1 rfl
    have e := rk_free hf n ht
    omega
  · rcases h2 rfl with ⟨a, b, c⟩ | ⟨a, b, c, d⟩ <;> omega
theorem g_0 {kd n : Nat} {s : WSt} (h : WInv kd n 0 s) : (kd = 1 → s.2.2.2.1 = n ∨ True) := fun _ => Or.inr trivial
/-- at the first place: in the law's own way of telling it -/
def Z0 (kd n : Nat) (i : Nat) (s : WSt) : Prop := i = 0 → s.2.2.2.1 = (if kd = 1 then n else 0)
theorem m_waysAt {kd n i j : Nat} {s : WSt} {mu gn cn : Int32} {pr wy : Nat → Int64} {Q : Int64 → Prop} (hk : kd = 1 ∨ kd = 2 ∨ kd = 3) (hn : n ≤ 18) (hp : ∀ i, i < 19 → pr i = lN (FAC i)) (hw : ∀ r, r ≤ n → wyO (kT kd) n wy r) (h : WInv kd n i s) (hz : Z0 kd n i s) (hm : MW kd n i s mu gn cn) (hi : i < n) (hj : j < n - i) (hQ : Q (lN (wt kd (n - i) s.2.2.2.1 s.2.2.2.2 j))) : q7_waysAt (nI n) pr wy gn cn (kI kd) (nI i) (nI j) Q := by
  obtain ⟨-, m2, m3⟩ := hm
  have hwn := h.2.2.2.2.2.2.1
  unfold q7_waysAt
  rw [pk_sub (show i ≤ n by omega)]
  have e1 : nI (n - i) - (1 : Int32) = nI (n - i - 1) := pk_sub (b := 1) (by omega)
  by_cases h3 : kd = 3
  · subst h3
    refine ⟨fun g => absurd rfl g, fun _ => ?_⟩
    rw [e1, nI_clamp (by omega), hp _ (by omega)]
    exact ⟨pk_in (n - i - 1) 19 (by omega), hQ⟩
  · have hk2 : kd = 1 ∨ kd = 2 := by omega
    have hkT : kT kd = kd := if_neg h3
    rw [hkT] at hw
    refine ⟨fun _ => ?_, fun g => by rcases hk2 with rfl | rfl <;> exact absurd g (by decide)⟩
    rw [m3 h3]
    refine pk_ne i 0 (fun hi0 => ?_) (fun hi0 => ?_)
    · rw [m2 h3 (by omega)]
      exact m_waysBy hk2 hn (by omega) (g_le hk2 h) hwn hj (hw _ (by omega)) hQ
    · subst hi0
      have hz2 := hz rfl
      rw [Nat.sub_zero] at hQ hj e1 ⊢
      have h45 : ∀ (x : Int32), ((∃ v, v ≤ n ∧ x = nI v) ∨ x = nI 0 - 1) → (∀ v, v ≤ n → x = nI v → Q (lN (WV kd (n - 1) (n - 1 - j) v))) → (x = nI 0 - 1 → Q 0) → q7_waysAt_45 (nI n) pr wy gn (nI s.2.2.2.2) Q x (nI j) (nI n) := fun x hx q1 q0 => by
        unfold q7_waysAt_45
        rcases hx with ⟨v, hv, rfl⟩ | rfl
        · have hb : wA (n - 1) (n - 1 - j) v < 6859 := by unfold wA; omega
          refine pk_lt v 0 (fun g => by omega) (fun _ => pk_le v n (fun _ => ?_) (fun g => by omega))
          rw [e1, pk_sub (by omega)]
          refine m_wayAt ⟨pk_in (wA (n - 1) (n - 1 - j) v) 6859 hb, ?_⟩
          rw [nI_clamp (by omega), hw (n - 1) (by omega) (n - 1 - j) v (by omega) hv]
          exact q1 v hv rfl
        · exact ⟨fun _ => q0 rfl, fun g => absurd (by decide) g⟩
      rcases hk2 with rfl | rfl
      · refine ⟨fun g => absurd rfl g, fun _ => ?_⟩
        rw [show s.2.2.2.1 = n from hz2] at hQ
        unfold wt at hQ
        rw [if_pos rfl, if_pos (by omega)] at hQ
        by_cases w0 : s.2.2.2.2 = 0
        · rw [w0]
          rw [if_pos w0] at hQ
          rw [w0] at h45
          refine h45 _ (Or.inr rfl) (fun v hv ev => ?_) (fun _ => hQ)
          have : (nI 0 - (1 : Int32)).toInt = (nI v).toInt := by rw [← ev]
          rw [nI_toInt (by omega), show (nI 0 - (1 : Int32)).toInt = -1 from by decide] at this
          omega
        · rw [if_neg w0] at hQ
          have es : nI s.2.2.2.2 - (1 : Int32) = nI (s.2.2.2.2 - 1) := pk_sub (b := 1) (by omega)
          rw [es]
          refine h45 _ (Or.inl ⟨_, by omega, rfl⟩) (fun v hv ev => ?_) (fun ev => ?_)
          · have : v = s.2.2.2.2 - 1 := ((nI_eq (by omega) (by omega)).mp ev).symm
            subst this; exact hQ
          · have : (nI (s.2.2.2.2 - 1)).toInt = (nI 0 - (1 : Int32)).toInt := by rw [ev]
            rw [nI_toInt (by omega), show (nI 0 - (1 : Int32)).toInt = -1 from by decide] at this
            omega
      · refine ⟨fun _ => ?_, fun g => absurd g (by decide)⟩
        rw [show s.2.2.2.1 = 0 from hz2] at hQ
        unfold wt at hQ
        rw [if_neg (by decide), if_pos rfl, if_neg (by omega)] at hQ
        refine h45 _ (Or.inl ⟨_, hwn, rfl⟩) (fun v hv ev => ?_) (fun ev => ?_)
        · have : v = s.2.2.2.2 := ((nI_eq (by omega) (by omega)).mp ev).symm
          subst this
          show Q (lN (RIS (n - 1) (n - 1 - (n - 1 - j)) s.2.2.2.2))
          rw [show n - 1 - (n - 1 - j) = j by omega]
          exact hQ
        · have : (nI s.2.2.2.2).toInt = (nI 0 - (1 : Int32)).toInt := by rw [ev]
          rw [nI_toInt (by omega), show (nI 0 - (1 : Int32)).toInt = -1 from by decide] at this
          omega
theorem shx : ∀ x, x < 19 → ((nI x &&& 31).toBitVec.smod 32).toNat = x := by decide +kernel
theorem bitI {msk x : Nat} (hm : msk < 2 ^ 18) (hx : x < 19) : (nI msk >>> (nI x &&& 31)) &&& (1 : Int32) = bI (msk.testBit x) := by
  rw [pk_shrN (by omega) _ x (shx x hx)]
  have hd : msk / 2 ^ x < 2 ^ 32 := Nat.lt_of_le_of_lt (Nat.div_le_self _ _) (by omega)
  rw [pk_andN hd 1 (by decide), Nat.testBit_eq_decide_div_mod_eq]
  rcases Nat.mod_two_eq_zero_or_one (msk / 2 ^ x) with e | e
  · rw [show 2 ^ 1 = 2 from rfl, e]; rfl
  · rw [show 2 ^ 1 = 2 from rfl, e]; rfl
theorem m_find {n i x : Nat} {U : Nat → Bool} {msk : Nat} {work : Nat → Int32} {gn cn : Int32} {Q : (Nat → Int32) → Int32 → Int32 → Int32 → Prop} (hn : n ≤ 18) (hi : i < n) (hx : x < n) (hu : U x = false) (hm : msk < 2 ^ 18) (hb : ∀ y, msk.testBit y = U y) (hQ : Q (upd work i (nI x)) (nI (msk ||| 2 ^ x)) gn cn) : ∃ k, q7_put_95 (nI n) Q k (nI i) 0 (nI (rk U x)) work (nI msk) gn cn := by
  have hr9 : rk U x ≤ x := fb_ct_le _ _
  have key : ∃ k, (fun k (a b : Int32) => q7_put_95 (nI n) Q k (nI i) a b work (nI msk) gn cn) k 0 (nI (rk U x)) := by
    refine up2 (fun k (a b : Int32) => q7_put_95 (nI n) Q k (nI i) a b work (nI msk) gn cn) (fun y => nI y) (fun y => nI (rk U x - rk U y)) 0 x (Nat.zero_le _) (fun k => ?_) (fun k y _ hy ih => ?_) rfl rfl
    · unfold q7_put_95
      rw [bitI hm (by omega), hb x, hu]
      refine ⟨fun g => absurd g (by decide), fun _ => pk_le (rk U x - rk U x) 0 (fun _ => ?_) (fun g => by omega)⟩
      unfold q7_put_141
      rw [shl1 x (by omega), fa_or, nI_clamp (by omega)]
      exact ⟨pk_in i 18 (by omega), hQ⟩
    · unfold q7_put_95
      rw [bitI hm (by omega), hb y]
      rw [rk_s] at ih
      by_cases hy9 : U y = true
      · rw [if_pos hy9] at ih
        rw [hy9]
        refine ⟨fun _ => ?_, fun g => absurd rfl g⟩
        unfold q7_put_113
        rw [bitI hm (by omega), hb y, hy9]
        refine ⟨fun _ => ?_, fun g => absurd g (by decide)⟩
        unfold q7_put_132
        rw [nI_1, Int32.sub_zero]
        exact ih
      · have hyf : U y = false := by cases h9 : U y; rfl; exact absurd h9 hy9
        have hlt := rk_lt hyf hy
        rw [if_neg hy9] at ih
        rw [hyf]
        refine ⟨fun g => absurd g (by decide), fun _ => pk_le (rk U x - rk U y) 0 (fun g => by omega) (fun _ => ?_)⟩
        unfold q7_put_113
        rw [bitI hm (by omega), hb y, hyf]
        refine ⟨fun g => absurd rfl g, fun _ => ?_⟩
        unfold q7_put_132
        rw [nI_1, show nI (rk U x - rk U y) - (1 : Int32) = nI (rk U x - rk U y - 1) from pk_sub (b := 1) (by omega), Nat.sub_sub]
        exact ih
  exact key
theorem m_put {kd n i x : Nat} {s : WSt} {mu gn cn : Int32} {work : Nat → Int32} {Q : (Nat → Int32) → Int32 → Int32 → Int32 → Prop} (hk : kd = 1 ∨ kd = 2 ∨ kd = 3) (hn : n ≤ 18) (h : WInv kd n i s) (hz : Z0 kd n i s) (hm : MW kd n i s mu gn cn) (hi : i < n) (hx : x < n) (hu : s.1 x = false) (hw : kd ≠ 3 → n - i ≤ s.2.2.2.1 + rk s.1 x → 1 ≤ s.2.2.2.2) (hQ : ∀ mu' gn' cn', MW kd n (i + 1) (nxS kd n i s x) mu' gn' cn' → Q (upd work i (nI x)) mu' gn' cn') : q7_put (nI n) work mu gn cn (kI kd) (nI i) (nI (rk s.1 x)) Q := by
  obtain ⟨⟨msk, rfl, hm1, hm2⟩, m2, m3⟩ := hm
  have hrn := h.2.1
  have hlt := rk_lt hu hx
  have hfin : ∀ gn' cn' : Int32, (kd ≠ 3 → gn' = nI (ng kd (n - i) s.2.2.2.1 (rk s.1 x)) ∧ cn' = nI (nw (n - i) s.2.2.2.1 s.2.2.2.2 (rk s.1 x))) → ∃ k, q7_put_95 (nI n) Q k (nI i) 0 (nI (rk s.1 x)) work (nI msk) gn' cn' := fun gn' cn' hg => by
    refine m_find hn hi hx hu hm1 hm2 (hQ _ _ _ ⟨⟨msk ||| 2 ^ x, rfl, Nat.or_lt_two_pow hm1 (Nat.pow_lt_pow_right (by decide) (by omega)), fun y => ?_⟩, fun e _ => (hg e).1, fun e => (hg e).2⟩)
    rw [fb_bit_set, hm2]
    show _ = (if y = x then true else s.1 y)
    by_cases e : y = x
    · rw [if_pos e, decide_eq_true e, Bool.or_true]
    · rw [if_neg e, decide_eq_false e, Bool.or_false]
  have e1 : nI (n - i) - (1 : Int32) - nI (rk s.1 x) = nI (n - i - 1 - rk s.1 x) := by rw [show nI (n - i) - (1 : Int32) = nI (n - i - 1) from pk_sub (b := 1) (by omega), pk_sub (by omega)]
  have h73 : ∀ (g0 cn' : Int32), (kd ≠ 3 → nI (n - i - 1 - rk s.1 x) = nI (ng kd (n - i) s.2.2.2.1 (rk s.1 x)) ∧ cn' = nI (nw (n - i) s.2.2.2.1 s.2.2.2.2 (rk s.1 x))) → q7_put_73 (nI n) Q (nI i) (nI (rk s.1 x)) (nI (n - i)) work (nI msk) g0 cn' := fun g0 cn' hg => by
    unfold q7_put_73 q7_put_86
    rw [e1]
    exact hfin _ _ hg
  unfold q7_put
  rw [pk_sub (show i ≤ n by omega)]
  by_cases h3 : kd = 3
  · subst h3
    have h54 : ∀ s2 x5 : Int32, q7_put_54 (nI n) Q cn s2 (kI 3) (nI i) (nI (rk s.1 x)) (nI (n - i)) x5 work (nI msk) gn cn := fun s2 x5 => by
      unfold q7_put_54
      refine ⟨fun g => absurd g (by decide), fun _ => ⟨fun _ => h73 _ _ (fun g => absurd rfl g), fun _ => ⟨fun _ => ?_, fun _ => h73 _ _ (fun g => absurd rfl g)⟩⟩⟩
      unfold q7_put_86
      exact hfin _ _ (fun g => absurd rfl g)
    have h28 : ∀ s0 : Int32, q7_put_28 (nI n) Q s0 (kI 3) (nI i) (nI (rk s.1 x)) (nI (n - i)) work (nI msk) gn cn := fun s0 => by
      unfold q7_put_28
      refine ⟨fun _ => ?_, fun g => absurd g (by decide)⟩
      unfold q7_put_44
      exact ⟨fun _ => h54 _ _, fun _ => h54 _ _⟩
    exact ⟨fun _ => h28 _, fun _ => ⟨fun _ => h28 _, fun _ => h28 _⟩⟩
  · have hk2 : kd = 1 ∨ kd = 2 := by omega
    have hcn := m3 h3
    have hgl := g_le hk2 h
    subst hcn
    have hng : n - i ≤ s.2.2.2.1 + rk s.1 x → nI (n - i - 1 - rk s.1 x) = nI (ng kd (n - i) s.2.2.2.1 (rk s.1 x)) := fun g => by
      unfold ng
      rw [if_pos g]
      split <;> rfl
    refine pk_le i 0 (fun hi0 => ?_) (fun hi0 => ?_)
    · have hi0 : i = 0 := by omega
      subst hi0
      have hz2 := hz rfl
      unfold q7_put_28
      rcases hk2 with rfl | rfl
      · have hz3 : s.2.2.2.1 = n := hz2
        refine ⟨fun g => absurd rfl g, fun _ => ⟨fun _ => ?_, fun g => absurd rfl g⟩⟩
        unfold q7_put_54
        refine ⟨fun g => absurd g (by decide), fun _ => ⟨fun _ => h73 _ _ (fun _ => ⟨hng (by omega), ?_⟩), fun g => absurd rfl g⟩⟩
        unfold nw
        rw [if_pos (by omega)]
        exact pk_sub (b := 1) (hw (by decide) (by omega))
      · have hz3 : s.2.2.2.1 = 0 := hz2
        refine ⟨fun _ => ?_, fun g => absurd g (by decide)⟩
        unfold q7_put_44
        refine z0 ?_
        unfold q7_put_54
        refine ⟨fun _ => h73 _ _ (fun _ => ⟨rfl, ?_⟩), fun g => absurd rfl g⟩
        unfold nw
        rw [if_neg (by omega), Int32.sub_zero]
    · have hgn := m2 h3 (by omega)
      subst hgn
      rw [pk_sub hgl]
      have hi9 : ¬ nI i = 0 := nI_ne0 (by omega) (by omega)
      refine pk_lt (rk s.1 x) (n - i - s.2.2.2.1) (fun g => ?_) (fun g => ?_)
      · have hno : ¬ n - i ≤ s.2.2.2.1 + rk s.1 x := by omega
        have hnw : nI s.2.2.2.2 - (0 : Int32) = nI (nw (n - i) s.2.2.2.1 s.2.2.2.2 (rk s.1 x)) := by unfold nw; rw [if_neg hno, Int32.sub_zero]
        unfold q7_put_28 q7_put_44
        rcases hk2 with rfl | rfl
        · refine ⟨fun g => absurd rfl g, fun _ => ⟨fun g => absurd g hi9, fun _ => z0 ?_⟩⟩
          unfold q7_put_54
          refine ⟨fun g => absurd g (by decide), fun _ => ⟨fun g => absurd g hi9, fun _ => z0 ?_⟩⟩
          unfold q7_put_86
          refine hfin _ _ (fun _ => ⟨?_, hnw⟩)
          unfold ng
          rw [if_pos rfl, if_neg hno]
        · refine ⟨fun _ => z0 ?_, fun g => absurd g (by decide)⟩
          unfold q7_put_54
          exact ⟨fun _ => h73 _ _ (fun _ => ⟨rfl, hnw⟩), fun g => absurd rfl g⟩
      · have hyes : n - i ≤ s.2.2.2.1 + rk s.1 x := by omega
        have hnw : nI s.2.2.2.2 - (1 : Int32) = nI (nw (n - i) s.2.2.2.1 s.2.2.2.2 (rk s.1 x)) := by unfold nw; rw [if_pos hyes]; exact pk_sub (b := 1) (hw h3 hyes)
        unfold q7_put_28 q7_put_44
        rcases hk2 with rfl | rfl
        · refine ⟨fun g => absurd rfl g, fun _ => ⟨fun g => absurd g hi9, fun _ => z1 ?_⟩⟩
          unfold q7_put_54
          exact ⟨fun g => absurd g (by decide), fun _ => ⟨fun g => absurd g hi9, fun _ => z1 (h73 _ _ (fun _ => ⟨hng hyes, hnw⟩))⟩⟩
        · refine ⟨fun _ => z1 ?_, fun g => absurd g (by decide)⟩
          unfold q7_put_54
          exact ⟨fun _ => h73 _ _ (fun _ => ⟨hng hyes, hnw⟩), fun g => absurd rfl g⟩
