/-! the class Tally -/
def GG (j yn : Nat) (y : Nat → Int64) : Prop := yn ≤ 211 ∧ ∀ v, v < 211 → (if v < yn then y v else 0) = lN (CNT (j / 19) (j % 19) v)
theorem psm_hi {k n v : Nat} (hn : n < 19) (hk : k ≠ 7) (hv : n < v) : psm k n v (PL n) = 0 := by
  refine psm_z _ (fun a ha => ?_)
  have := (keyP_lt (k := k) hn (List.all_eq_true.mp (PL_v n hn) a ha)).2 hk
  omega
theorem MAH_z {n v : Nat} (h1 : 1 ≤ n) (hn : n < 19) (hv : n * (n - 1) / 2 < v) : MAH n v = 0 := by
  unfold MAH
  have h := mahL_l (n - 1) (by omega)
  rw [show n - 1 + 1 = n by omega, Nat.mul_comm] at h
  rw [List.getD_eq_getElem?_getD, List.getElem?_eq_none (by omega)]
  rfl
/-- how long the row of a kind is -/
def ynK (k n : Nat) : Nat := if k = 5 then n * (n - 1) / 2 + 1 else if k = 7 then 211 else n + 1
theorem ynK_le {k n : Nat} (hn : n ≤ 18) : 1 ≤ ynK k n ∧ ynK k n ≤ 211 := by
  unfold ynK
  have h : n * (n - 1) ≤ 18 * 17 := Nat.mul_le_mul hn (by omega)
  split
  · omega
  · split <;> omega
theorem CNT_hi {k n v : Nat} (hk : k < 8) (h1 : 1 ≤ n) (hn : n ≤ 18) (hv : ynK k n ≤ v) (hv2 : v < 211) : CNT k n v = 0 := by
  unfold ynK at hv
  unfold CNT
  by_cases h5 : k = 5
  · subst h5
    rw [if_pos rfl] at hv
    rw [if_pos (Or.inr rfl)]
    exact MAH_z h1 (by omega) (by omega)
  · rw [if_neg h5] at hv
    by_cases h7 : k = 7
    · rw [if_pos h7] at hv; omega
    · rw [if_neg h7] at hv
      by_cases h3 : k < 3
      · rw [if_pos (Or.inl h3)]
        unfold CNt
        by_cases h2 : k < 2
        · rw [if_pos h2]; exact REC_z (by omega) (by omega)
        · rw [if_neg h2, if_pos (by omega)]; exact RIS_z (by omega) (Or.inr (by omega))
      · rw [if_neg (by omega)]
        exact psm_hi (by omega) h7 (by omega)
theorem GG_of {k n : Nat} {y : Nat → Int64} (hk : k < 8) (h1 : 1 ≤ n) (hn : n ≤ 18) (h : ∀ v, v < ynK k n → y v = lN (CNT k n v)) : GG (k * 19 + n) (ynK k n) y := by
  refine ⟨(ynK_le hn).2, fun v hv => ?_⟩
  rw [show (k * 19 + n) / 19 = k by omega, show (k * 19 + n) % 19 = n by omega]
  by_cases e : v < ynK k n
  · rw [if_pos e]; exact h v e
  · rw [if_neg e, CNT_hi hk h1 hn (by omega) hv]; rfl
theorem t_fromTables {k n v : Nat} {t_fac t_der : Nat → Int64} {t_rec t_rut : Nat → Nat → Int64} {t_ris : Nat → Int64} {Q : Int64 → Prop} (ht : TabOK t_fac t_der t_rec t_rut t_ris) (hk : k < 5) (h1 : 1 ≤ n) (hn : n ≤ 18) (hv : v ≤ n) (h : Q (lN (CNT k n v))) : q4_fromTables (nI n) t_der t_rec t_rut t_ris (nI k) (nI v) Q := by
  have h36 : k < 2 → q4_fromTables_36 (nI n) t_der t_rec t_rut t_ris Q (nI v) := fun g => by
    unfold q4_fromTables_36
    refine t_recs ht.2.2.1 (by omega) (by omega) (by omega) ?_
    have e : RW1 n n v = CNT k n v := by
      unfold RW1 CNT CNt
      rw [if_pos (Nat.le_refl _), if_pos (Or.inl (by omega)), if_pos g, Nat.sub_self]
      rfl
    rw [e]; exact h
  have e3 : ∀ v, v < n + 1 → psm 3 n v (PL n) = STL n v := fun v hv => by
    have := PS_3 (n - 1) (by omega) v (by omega)
    rwa [show n - 1 + 1 = n by omega] at this
  have e4 : ∀ v, v < n + 1 → psm 4 n v (PL n) = LRD n v := fun v hv => by
    have := PS_4 (n - 1) (by omega) v (by omega)
    rwa [show n - 1 + 1 = n by omega] at this
  unfold q4_fromTables
  refine pk_eq k 0 (fun e => h36 (by omega)) (fun _ => pk_eq k 1 (fun e => h36 (by omega)) (fun _ => pk_eq k 2 (fun e => ?_) (fun _ => pk_eq k 3 (fun e => ?_) (fun _ => pk_eq k 4 (fun e => ?_) (fun _ => by omega)))))
  · subst e
    exact t_rises (by omega) (by omega) (by omega) (ht.2.2.2.2 n (by omega)) h
  · subst e
    refine t_still ht.2.1 (by omega) (by omega) ?_
    rw [← e3 v (by omega)]
    exact h
  · subst e
    have h9 : Q (lN (LRD n v)) := by rw [← e4 v (by omega)]; exact h
    refine t_upTo ht.2.2.2.1 (by omega) (by omega) ?_
    by_cases h0 : v = 0
    · subst h0
      unfold q3_withRoundsUpTo
      refine ⟨fun _ => ?_, fun g => absurd (by decide) g⟩
      show Q (lN (RUT 0 n) - 0)
      rw [Int64.sub_zero]
      exact h9
    · rw [show nI v - (1 : Int32) = nI (v - 1) from pk_sub (b := 1) (by omega)]
      refine t_upTo ht.2.2.2.1 (by omega) (by omega) ?_
      have hm := RUT_m n (by omega) (v - 1) (by omega)
      rw [show v - 1 + 1 = v by omega] at hm
      rw [lN_sub hm]
      unfold LRD at h9
      rw [if_neg h0] at h9
      exact h9
theorem t_fillByTables {k n : Nat} {t_fac t_der : Nat → Int64} {t_rec t_rut : Nat → Nat → Int64} {t_ris y : Nat → Int64} {Q : (Nat → Int64) → Prop} (ht : TabOK t_fac t_der t_rec t_rut t_ris) (hk : k < 5) (h1 : 1 ≤ n) (hn : n ≤ 18) (h : ∀ y', (∀ v, v < ynK k n → y' v = lN (CNT k n v)) → Q y') : q4_fillByTables (ynK k n) (nI n) t_der t_rec t_rut t_ris y (nI k) Q := by
  have hy : ynK k n = n + 1 := by unfold ynK; rw [if_neg (by omega), if_neg (by omega)]
  unfold q4_fillByTables
  rw [hy] at h ⊢
  refine lpI (fun k2 v (y : Nat → Int64) => q4_fillByTables_2 (n + 1) (nI n) t_der t_rec t_rut t_ris Q k2 (nI k) (nI v) y) (fun v y => ∀ u, u < v → y u = lN (CNT k n u)) 0 (n + 1) y (Nat.zero_le _) (fun u hu => by omega) (fun k2 y hI => ?_) (fun k2 v y _ hv hI ih => ?_)
  · unfold q4_fillByTables_2
    exact pk_le (n + 1) (n + 1) (fun _ => h y hI) (fun g => by omega)
  · unfold q4_fillByTables_2
    refine pk_le (n + 1) v (fun g => by omega) (fun _ => t_fromTables ht hk h1 hn (by omega) ⟨pk_in v (n + 1) hv, ?_⟩)
    rw [nI_1, nI_clamp (by omega)]
    refine ih _ (fun u hu => ?_)
    by_cases e : u = v
    · subst e; exact pk_uLs
    · rw [pk_uLn e]; exact hI u (by omega)
/-! pairs out of order -/
def asS (M lo : Nat) : Nat → Nat
  | 0 => 0
  | i + 1 => asS M lo i + MAH M (lo + i)
theorem asS_sh (M lo : Nat) : ∀ d, asS M lo (d + 1) = MAH M lo + asS M (lo + 1) d := by
  intro d
  induction d with
  | zero => show 0 + MAH M (lo + 0) = MAH M lo + 0; rw [Nat.add_zero]; omega
  | succ d ih =>
    show asS M lo (d + 1) + MAH M (lo + (d + 1)) = MAH M lo + (asS M (lo + 1) d + MAH M (lo + 1 + d))
    rw [ih, show lo + (d + 1) = lo + 1 + d by omega]
    omega
theorem mahS_as (M v : Nat) : ∀ j, j ≤ v → mahS M v (j + 1) = asS M (v - j) (j + 1) := by
  intro j
  induction j with
  | zero => intro _; show 0 + (if 0 ≤ v then _ else 0) = 0 + MAH M (v - 0 + 0); rw [if_pos (Nat.zero_le _)]; rfl
  | succ j ih =>
    intro hj
    show mahS M v (j + 1) + (if j + 1 ≤ v then MAH M (v - (j + 1)) else 0) = _
    rw [if_pos hj, ih (by omega), asS_sh M (v - (j + 1)) (j + 1), show v - (j + 1) + 1 = v - j by omega]
    omega
theorem mahS_flat (M v : Nat) : ∀ d J, v < J → mahS M v (J + d) = mahS M v J := by
  intro d
  induction d with
  | zero => intro J _; rfl
  | succ d ih =>
    intro J hJ
    show mahS M v (J + d) + (if J + d ≤ v then _ else 0) = _
    rw [if_neg (by omega), ih J hJ]; rfl
theorem mahS_in {M v m : Nat} (hm : 1 ≤ m) : mahS M v m = asS M (v + 1 - m) (v - (v + 1 - m)) + MAH M v := by
  by_cases h : m ≤ v + 1
  · obtain ⟨j, rfl⟩ : ∃ j, m = j + 1 := ⟨m - 1, by omega⟩
    rw [mahS_as M v j (by omega), show v + 1 - (j + 1) = v - j by omega, show v - (v - j) = j by omega]
    show asS M (v - j) j + MAH M (v - j + j) = _
    rw [show v - j + j = v by omega]
  · rw [show m = v + 1 + (m - (v + 1)) by omega, mahS_flat M v _ (v + 1) (by omega), mahS_as M v v (Nat.le_refl _), show v + 1 - (v + 1 + (m - (v + 1))) = 0 by omega, Nat.sub_self, Nat.sub_zero]
    show asS M 0 v + MAH M (0 + v) = _
    rw [Nat.zero_add]
theorem lo_I {v m : Nat} (hv : v < 2 ^ 20) (hm : m < 2 ^ 20) : (if (0 : Int32) < (nI v - nI m) + (1 : Int32) then (nI v - nI m) + (1 : Int32) else (0 : Int32)) = nI (v + 1 - m) := by
  have e1 : (nI v - nI m).toInt = (v : Int) - m := pk_sub_toInt (by omega) (by omega)
  have e2 : ((nI v - nI m) + (1 : Int32)).toInt = (v : Int) - m + 1 := by
    have h1 : (1 : Int32).toInt = 1 := rfl
    rw [fb_addI (by omega) (by omega), e1, h1]
  have h0 : (0 : Int32).toInt = 0 := rfl
  by_cases h : (0 : Int32) < (nI v - nI m) + (1 : Int32)
  · rw [if_pos h]
    rw [Int32.lt_iff_toInt_lt, e2, h0] at h
    apply Int32.toInt_inj.mp
    rw [e2, nI_toInt (by omega)]
    omega
  · rw [if_neg h]
    rw [Int32.lt_iff_toInt_lt, e2, h0] at h
    rw [show v + 1 - m = 0 by omega]; rfl
theorem MAH_1 : ∀ v, v < 211 → MAH 1 v = if v = 0 then 1 else 0 := by decide +kernel
theorem t_pairs {n : Nat} {Q : (Nat → Int64) → Prop} (h1 : 1 ≤ n) (hn : n ≤ 18) (h : ∀ y', (∀ v, v < ynK 5 n → y' v = lN (CNT 5 n v)) → Q y') : q4_fillPairsOut (ynK 5 n) (nI n) (fun _ => 0) Q := by
  have hy : ynK 5 n = n * (n - 1) / 2 + 1 := by unfold ynK; rw [if_pos rfl]
  obtain ⟨hy1, hy2⟩ := ynK_le (k := 5) hn
  generalize ynK 5 n = Y at hy1 hy2 h
  unfold q4_fillPairsOut
  refine ⟨pk_in 0 Y (by omega), ?_⟩
  refine lpI (fun k2 m (y : Nat → Int64) => q4_fillPairsOut_9 Y (nI n) Q k2 (nI m) y) (fun m y => ∀ u, u < Y → y u = lN (MAH (m - 1) u)) 2 (n + 1) _ (by omega) (fun u hu => ?_) (fun k2 y hI => ?_) (fun k2 m y h2m hm hI ih => ?_)
  · show vp_updL (fun _ => 0) (0 : Int32).toNatClampNeg (1 : Int64) u = lN (MAH 1 u)
    rw [MAH_1 u (by omega), show (0 : Int32).toNatClampNeg = 0 from rfl]
    by_cases e : u = 0
    · subst e; rfl
    · rw [if_neg e, pk_uLn e]; rfl
  · unfold q4_fillPairsOut_9
    refine pk_lt n (n + 1) (fun _ => h y (fun v hv => ?_)) (fun g => by omega)
    rw [hI v hv]; rfl
  · unfold q4_fillPairsOut_9
    have e1 : Int32.ofNat Y - (1 : Int32) = nI (Y - 1) := pk_sub (b := 1) hy1
    rw [e1]
    refine pk_lt n m (fun g => by omega) (fun _ => ?_)
    have key := pk_loopD (σ := Nat → Int64) (fun k3 v y => q4_fillPairsOut_25 Y (nI n) (fun v0 v1 => q4_fillPairsOut_9 Y (nI n) Q k2 v0 v1) Q k3 (nI m) (nI v) y) (fun v y => (∀ u, v < u → u < Y → y u = lN (MAH m u)) ∧ (∀ u, u ≤ v → y u = lN (MAH (m - 1) u)) ∧ v < Y) (fun k3 y hI2 => ?_) (fun k3 v y hI2 ih2 => ?_) (Y - 1) y ⟨fun u hu hu2 => by omega, fun u hu => hI u (by omega), by omega⟩
    · exact ⟨_, key⟩
    · unfold q4_fillPairsOut_25
      refine pk_le 0 0 (fun _ => ?_) (fun g => by omega)
      unfold q4_fillPairsOut_71
      rw [nI_1]
      refine ih y (fun u hu => ?_)
      show y u = lN (MAH m u)
      by_cases e : u = 0
      · subst e
        rw [hI2.2.1 0 (Nat.le_refl _)]
        obtain ⟨r, rfl⟩ : ∃ r, m = r + 2 := ⟨m - 2, by omega⟩
        rw [MAH_s r (by omega) 0 (by decide), mahS_in (by omega)]
        show lN (MAH (r + 1) 0) = lN (asS (r + 1) (0 + 1 - (r + 2)) (0 - (0 + 1 - (r + 2))) + MAH (r + 1) 0)
        rw [Nat.zero_sub]
        exact congrArg lN (Nat.zero_add _).symm
      · exact hI2.1 u (by omega) hu
    · unfold q4_fillPairsOut_25
      obtain ⟨ha, hb, hc⟩ := hI2
      refine pk_le (v + 1) 0 (fun g => by omega) (fun _ => ?_)
      rw [lo_I (by omega) (by omega)]
      generalize hlo : v + 1 + 1 - m = lo
      refine lpI (fun k4 x (y2 : Nat → Int64) => q4_fillPairsOut_39 Y (nI n) (fun v0 v1 => q4_fillPairsOut_9 Y (nI n) Q k2 v0 v1) (fun v0 v1 v2 => q4_fillPairsOut_25 Y (nI n) (fun v0 v1 => q4_fillPairsOut_9 Y (nI n) Q k2 v0 v1) Q k3 v0 v1 v2) Q k4 (nI m) (nI (v + 1)) (nI x) y2) (fun x y2 => (∀ u, u ≠ v + 1 → y2 u = y u) ∧ y2 (v + 1) = lN (asS (m - 1) lo (x - lo) + MAH (m - 1) (v + 1))) lo (v + 1) y (by omega) ⟨fun _ _ => rfl, ?_⟩ (fun k4 y2 hI4 => ?_) (fun k4 x y2 hx1 hx hI4 ih4 => ?_)
      · rw [hb (v + 1) (Nat.le_refl _), Nat.sub_self]
        exact congrArg lN (Nat.zero_add _).symm
      · unfold q4_fillPairsOut_39
        refine pk_le (v + 1) (v + 1) (fun _ => ?_) (fun g => by omega)
        unfold q4_fillPairsOut_65
        rw [pk_m1]
        refine ih2 y2 ⟨fun u hu hu2 => ?_, fun u hu => ?_, by omega⟩
        · by_cases e : u = v + 1
          · subst e
            rw [hI4.2]
            obtain ⟨r, rfl⟩ : ∃ r, m = r + 2 := ⟨m - 2, by omega⟩
            rw [MAH_s r (by omega) (v + 1) (by omega), mahS_in (by omega), hlo]
            rfl
          · rw [hI4.1 u e]; exact ha u (by omega) hu2
        · rw [hI4.1 u (by omega)]; exact hb u (by omega)
      · unfold q4_fillPairsOut_39
        rw [nI_clamp (by omega), nI_clamp (by omega), hI4.2, hI4.1 x (by omega), hb x (by omega), lN_add, nI_1]
        refine pk_le (v + 1) x (fun g => by omega) (fun _ => ⟨pk_in (v + 1) Y (by omega), pk_in x Y (by omega), pk_in (v + 1) Y (by omega), ih4 _ ⟨fun u hu => ?_, ?_⟩⟩)
        · rw [pk_uLn hu]; exact hI4.1 u hu
        · rw [pk_uLs, show x + 1 - lo = x - lo + 1 by omega]
          show _ = lN (asS (m - 1) lo (x - lo) + MAH (m - 1) (lo + (x - lo)) + MAH (m - 1) (v + 1))
          rw [show lo + (x - lo) = x by omega]
          exact congrArg lN (by omega)
/-! by partitions -/
theorem t_add {Y v : Nat} {y : Nat → Int64} {a : Int64} {Q : (Nat → Int64) → Prop} (hY : Y < 2 ^ 31) (hv : v < Y) (h : Q (vp_updL y v (y v + a))) : q4_addOrders Y y (nI v) a Q := by
  unfold q4_addOrders
  rw [nI_clamp (by omega)]
  exact pk_lt v 0 (fun g => by omega) (fun _ => pk_le Y v (fun g => by omega) (fun _ => ⟨pk_in v Y hv, pk_in v Y hv, h⟩))
theorem smS_pos {f : Nat → Nat} {l : Nat} (hf : ∀ i, i < l → 1 ≤ f i) : ∀ i, i ≤ l → 0 < smS f i := by
  intro i
  induction i with
  | zero => intro _; exact Nat.one_pos
  | succ i ih =>
    intro hi
    have a := hf i (by omega)
    have b := (lik_le f i).1
    exact Nat.mul_pos (ih (by omega)) (Nat.mul_pos (by omega) (by omega))
theorem t_byParts {k n : Nat} {t_fac : Nat → Int64} {Q : (Nat → Int64) → (Nat → Int32) → Int32 → Prop} (ht : ∀ i, i < 19 → t_fac i = lN (FAC i)) (hk : k = 6 ∨ k = 7) (h1n : 1 ≤ n) (hn : n ≤ 18) (h : ∀ y' p l, (∀ v, v < ynK k n → y' v = lN (CNT k n v)) → Q y' p l) : q4_fillByPartitions (ynK k n) (nI n) t_fac (fun _ => 0) (upd (fun _ => 0) 0 (nI n)) 1 (nI k) Q := by
  unfold q4_fillByPartitions
  obtain ⟨hy1, hy2⟩ := ynK_le (k := k) hn
  obtain ⟨hlen, hhd⟩ := PL_0 h1n (show n < 19 by omega)
  have hlen2 := PL_len n (by omega)
  have hch := PL_ch (n - 1) (by omega)
  rw [show n - 1 + 1 = n by omega] at hch
  have hst : ∃ k3, q4_fillByPartitions_17 (ynK k n) (nI n) t_fac Q k3 (nI k) (if 0 < (PL n).length then 1 else 0) (nI 0) (fun _ => 0) (upd (fun _ => 0) 0 (nI n)) 1 := by
    refine lpI (fun k3 t (s : (Nat → Int64) × (Nat → Int32) × Int32) => q4_fillByPartitions_17 (ynK k n) (nI n) t_fac Q k3 (nI k) (if t < (PL n).length then 1 else 0) (nI t) s.1 s.2.1 s.2.2) (fun t s => (∀ v, v < ynK k n → s.1 v = lN (psm k n v ((PL n).take t))) ∧ (t < (PL n).length → PA s.2.1 (pf ((PL n).getD t [])) ((PL n).getD t []).length ∧ s.2.2 = nI ((PL n).getD t []).length)) 0 (PL n).length ((fun _ => 0), upd (fun _ => 0) 0 (nI n), 1) (Nat.zero_le _) ⟨fun v hv => rfl, fun _ => ?_⟩ (fun k3 s hI => ?_) (fun k3 t s _ ht9 hI ih => ?_)
    · rw [hhd]
      refine ⟨fun i hi => ?_, rfl⟩
      have : i = 0 := by simpa using hi
      subst this
      show upd (fun _ => 0) 0 (nI n) 0 = nI n
      exact pk_us
    · unfold q4_fillByPartitions_17
      rw [if_neg (Nat.lt_irrefl _)]
      refine pk_le 1000 (PL n).length (fun g => by omega) (fun _ => z0 (h _ _ _ (fun v hv => ?_)))
      rw [hI.1 v hv, List.take_length]
      unfold CNT
      rw [if_neg (by omega)]
    · obtain ⟨y, p, l⟩ := s
      obtain ⟨ha, hb⟩ := hI
      obtain ⟨hb1, hb2⟩ := hb ht9
      dsimp only at ha hb1 hb2 ⊢
      subst hb2
      have hv := PL_VB (show n < 19 by omega) ht9
      obtain ⟨v1, v2, v3, v4, v5, v6, v7, v8⟩ := VB_ok hv
      have hkey := keyP_lt (k := k) (show n < 19 by omega) hv
      have htk := fun v => psm_take (k := k) (n := n) (v := v) ht9
      generalize hA : (PL n).getD t [] = A at hb1 v1 v2 v3 v4 v5 v6 v7 v8 hkey htk
      have hkY : keyP k A < ynK k n := by
        unfold ynK
        rw [if_neg (by omega)]
        split
        · exact hkey.1
        · rename_i g; have := hkey.2 g; omega
      have hfac := (FAC_lt n (by omega)).2
      have hgo : ∀ am : Nat, am = amtP k n A → q4_addOrders (ynK k n) y (nI (keyP k A)) (lN am) (fun y2 => q4_fillByPartitions_97 (ynK k n) (nI n) t_fac (fun v0 v1 v2 v3 v4 v5 => q4_fillByPartitions_17 (ynK k n) (nI n) t_fac Q k3 v0 v1 v2 v3 v4 v5) Q (nI k) (nI t) y2 p (nI A.length)) := fun am e => by
        subst e
        refine t_add (by omega) hkY ?_
        rw [ha _ hkY, lN_add]
        have hc2 : ∀ v, v < ynK k n → vp_updL y (keyP k A) (lN (psm k n (keyP k A) ((PL n).take t) + amtP k n A)) v = lN (psm k n v ((PL n).take (t + 1))) := fun v hv => by
          rw [htk v]
          by_cases e : v = keyP k A
          · subst e; rw [pk_uLs, if_pos rfl]
          · rw [pk_uLn e, ha v hv, if_neg (fun g => e g.symm)]; rfl
        unfold q4_fillByPartitions_97
        by_cases hlast : t + 1 = (PL n).length
        · have hl := chB_last _ t hch hlast
          rw [hA] at hl
          refine c_last hb1 v1.1 v1.2.1 (lastB_iff hl) ?_
          have := ih (_, p, nI A.length) ⟨hc2, fun g => by omega⟩
          rw [if_neg (by omega)] at this
          rw [nI_1]
          exact this
        · have hs := stepB_St (chB_step _ t hch (by omega))
          rw [hA] at hs
          refine c_next hb1 v1 hs (fun p' hp' => ?_)
          have := ih (_, p', nI ((PL n).getD (t + 1) []).length) ⟨hc2, fun _ => ⟨hp', rfl⟩⟩
          rw [if_pos (by omega)] at this
          rw [nI_1]
          exact this
      unfold q4_fillByPartitions_17
      rw [if_pos ht9]
      refine pk_le 1000 t (fun g => by omega) (fun _ => z1 (pk_ne k 6 (fun g => ?_) (fun g => ?_)))
      · have g7 : k = 7 := by omega
        subst g7
        have hsp := smS_pos (f := pf A) (l := A.length) (fun i hi => (v1.2.2 i hi).1) A.length (Nat.le_refl _)
        exact c_turns hb1 v1 (t_ordersOf ht (by omega) (c_same hb1 v1 (e_quotient (by omega) (by omega) hsp (hgo _ rfl))))
      · subst g
        refine t_ordersOf ht (by omega) (c_hook hb1 v1 ?_)
        rw [← v3]
        refine e_quotient (by omega) (by omega) v4 (c_first hb1 v1 ?_)
        rw [lN_mul]
        exact hgo _ rfl
  rw [if_pos hlen] at hst
  exact hst
theorem t_greatest {k n : Nat} {Q : Int32 → Prop} (hk : k < 8) (h1 : 1 ≤ n) (hn : n ≤ 18) (h : Q (nI (ynK k n - 1))) : q4_greatest (nI k) (nI n) Q := by
  unfold q4_greatest
  have hm : n * (n - 1) ≤ 18 * 17 := Nat.mul_le_mul hn (by omega)
  refine pk_eq k 5 (fun e => ⟨by decide, ?_⟩) (fun e5 => pk_eq k 7 (fun e => ?_) (fun e7 => ?_))
  · subst e
    rw [show nI n - (1 : Int32) = nI (n - 1) from pk_sub (b := 1) h1, pk_mul, show (2 : Int32) = nI 2 from rfl, pk_div (by omega) (by decide) (by decide), show (0 : Int32) = nI 0 from rfl, nI_max (by decide) (by omega), Nat.zero_max]
    exact h
  · subst e; exact h
  · rw [show (0 : Int32) = nI 0 from rfl, nI_max (by decide) (by omega), Nat.zero_max]
    unfold ynK at h
    rw [if_neg e5, if_neg e7, Nat.add_sub_cancel] at h
    exact h
theorem t_init4 {k n : Nat} {t_fac t_der : Nat → Int64} {t_rec t_rut : Nat → Nat → Int64} {t_ris : Nat → Int64} (ht : TabOK t_fac t_der t_rec t_rut t_ris) (hk : k < 8) (h1 : 1 ≤ n) (hn : n ≤ 18) : q4_init t_fac t_der t_rec t_rut t_ris (nI k) (nI n) (fun yn y => GG (k * 19 + n) yn y) := by
  obtain ⟨hy1, hy2⟩ := ynK_le (k := k) hn
  unfold q4_init
  refine t_greatest hk h1 hn ?_
  rw [nI_1, show ynK k n - 1 + 1 = ynK k n by omega, nI_clamp (by omega)]
  refine ⟨nI_pos (by omega), hy2, ?_⟩
  unfold q4_initB
  refine pk_eq k 5 (fun e => ?_) (fun e5 => ⟨fun e => ?_, fun e => ?_⟩)
  · subst e
    exact t_pairs h1 hn (fun y' hy => GG_of hk h1 hn hy)
  · have e : k = 6 ∨ k = 7 := by
      rcases e with e | e
      · exact Or.inl ((nI_eq (b := 6) (by omega) (by decide)).mp e)
      · exact Or.inr ((nI_eq (b := 7) (by omega) (by decide)).mp e)
    exact t_byParts ht.1 e h1 hn (fun y' p l hy => GG_of hk h1 hn hy)
  · have h5 : k < 5 := by
      have a6 : k ≠ 6 := fun g => e (Or.inl (by rw [g]; rfl))
      have a7 : k ≠ 7 := fun g => e (Or.inr (by rw [g]; rfl))
      omega
    exact t_fillByTables ht h5 h1 hn (fun y' hy => GG_of hk h1 hn hy)
