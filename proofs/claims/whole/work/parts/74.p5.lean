/-! how many, and the mean -/
theorem PS_3w : ∀ n, n < 19 → psw 3 n (PL n) < 2 ^ 62 := by decide +kernel
theorem PS_4w : ∀ n, n < 19 → psw 4 n (PL n) < 2 ^ 62 := by decide +kernel
theorem CN_w0 : ∀ n, n < 19 → fb_sm (fun v => v * CNt 0 n v) 211 < 2 ^ 62 := by decide +kernel
theorem CN_w2 : ∀ n, n < 19 → fb_sm (fun v => v * CNt 2 n v) 211 < 2 ^ 62 := by decide +kernel
theorem CN_w5 : ∀ n, n < 19 → fb_sm (fun v => v * CNt 5 n v) 211 < 2 ^ 62 := by decide +kernel
theorem sm_one {c a : Nat} : ∀ m, c < m → fb_sm (fun v => v * (if c = v then a else 0)) m = c * a := by
  intro m
  induction m with
  | zero => intro h; omega
  | succ m ih =>
    intro h
    rw [fb_sm_succ]
    by_cases e : c = m
    · subst e
      have : fb_sm (fun v => v * (if c = v then a else 0)) c = 0 := by
        have hz : ∀ j, j ≤ c → fb_sm (fun v => v * (if c = v then a else 0)) j = 0 := by
          intro j
          induction j with
          | zero => intro _; rfl
          | succ j ihj => intro hj; rw [fb_sm_succ, ihj (by omega), if_neg (by omega)]; rfl
        exact hz c (Nat.le_refl _)
      rw [this, if_pos rfl]; omega
    · rw [ih (by omega), if_neg e]; rfl
theorem sm_psm {k n : Nat} : ∀ L : List (List Nat), (∀ x ∈ L, keyP k x < 211) → fb_sm (fun v => v * psm k n v L) 211 = psw k n L := by
  intro L
  induction L with
  | nil =>
    intro _
    have : ∀ j, fb_sm (fun v => v * psm k n v []) j = 0 := by
      intro j
      induction j with
      | zero => rfl
      | succ j ih => rw [fb_sm_succ, ih]; rfl
    exact this 211
  | cons x L ih =>
    intro h
    have e : (fun v => v * psm k n v (x :: L)) = (fun v => v * (if keyP k x = v then amtP k n x else 0) + v * psm k n v L) := funext fun v => by
      show v * ((if keyP k x = v then amtP k n x else 0) + psm k n v L) = _
      rw [Nat.mul_add]
    rw [e, fb_sm_add (fun v => v * (if keyP k x = v then amtP k n x else 0)) (fun v => v * psm k n v L), sm_one 211 (h x List.mem_cons_self), ih (fun y hy => h y (List.mem_cons_of_mem _ hy))]
    rfl
def smC (k n : Nat) : Nat := fb_sm (fun v => v * CNT k n v) 211
theorem smC_lt {k n : Nat} (hk : k < 8) (hn : n < 19) : smC k n < 2 ^ 62 := by
  unfold smC
  have hkey : ∀ x ∈ PL n, keyP k x < 211 := fun x hx => (keyP_lt (k := k) hn (List.all_eq_true.mp (PL_v n hn) x hx)).1
  by_cases h3 : k < 3 ∨ k = 5
  · have e : (fun v => v * CNT k n v) = (fun v => v * CNt k n v) := funext fun v => by unfold CNT; rw [if_pos h3]
    rw [e]
    rcases (show k = 0 ∨ k = 1 ∨ k = 2 ∨ k = 5 by omega) with rfl | rfl | rfl | rfl
    · exact CN_w0 n hn
    · exact CN_w0 n hn
    · exact CN_w2 n hn
    · exact CN_w5 n hn
  · have e : (fun v => v * CNT k n v) = (fun v => v * psm k n v (PL n)) := funext fun v => by unfold CNT; rw [if_neg h3]
    rw [e, sm_psm _ hkey]
    rcases (show k = 3 ∨ k = 4 ∨ k = 6 ∨ k = 7 by omega) with rfl | rfl | rfl | rfl
    · exact PS_3w n hn
    · exact PS_4w n hn
    · exact PS_6w n hn
    · exact PS_7w n hn
theorem c_entryG {j yn : Nat} {y : Nat → Int64} {a2 : Int32} {Q : Int64 → Prop} (hG : GG j yn y) (h1 : ∀ v, v < 211 → a2 = nI v → Q (lN (CNT (j / 19) (j % 19) v))) (h0 : (a2 < 0 ∨ nI 211 ≤ a2) → Q 0) : q4_ordersWith yn y a2 Q := by
  unfold q4_ordersWith
  obtain ⟨hy, hv⟩ := hG
  rcases ix a2 (n := 211) (by decide) with hb | ⟨v, hv2, rfl⟩
  · refine t_entryB ?_ (h0 hb)
    rcases hb with hb | hb
    · exact Or.inl hb
    · refine Or.inr ?_
      rw [Int32.le_iff_toInt_le, nI_toInt (by omega)] at hb ⊢
      omega
  · have e := hv v hv2
    have q := h1 v hv2 rfl
    rw [← e] at q
    by_cases g : v < yn
    · rw [if_pos g] at q
      exact t_entry (by omega) g q
    · rw [if_neg g] at q
      exact t_entryB (Or.inr (nI_le (by omega) (by omega))) q
theorem lN_tail {f : Nat → Nat} {a : Nat} : ∀ b, a ≤ b → (∀ v, a ≤ v → v < b → lN (f v) = 0) → lN (fb_sm (fun v => v * f v) b) = lN (fb_sm (fun v => v * f v) a) := by
  intro b
  induction b with
  | zero => intro h _; rw [show a = 0 by omega]
  | succ b ih =>
    intro h hz
    by_cases e : a = b + 1
    · rw [e]
    · rw [fb_sm_succ, ← lN_add, ← lN_mul, hz b (by omega) (by omega), Int64.mul_zero, Int64.add_zero]
      exact ih (by omega) (fun v h1 h2 => hz v h1 (by omega))
theorem c_sum {j yn : Nat} {y : Nat → Int64} {Q : Int64 → Prop} (hG : GG j yn y) (h : Q (lN (smC (j / 19) (j % 19)))) : q4_sumOfNumbers yn y Q := by
  obtain ⟨hy, hv⟩ := hG
  unfold q4_sumOfNumbers
  have e9 : lN (smC (j / 19) (j % 19)) = lN (fb_sm (fun v => v * CNT (j / 19) (j % 19) v) yn) := lN_tail 211 hy (fun v h1 h2 => by have := hv v h2; rw [if_neg (by omega)] at this; exact this.symm)
  rw [e9] at h
  refine up2 (q4_sumOfNumbers_4 yn y Q) (fun i => lN (fb_sm (fun v => v * CNT (j / 19) (j % 19) v) i)) (fun i => nI i) 0 yn (Nat.zero_le _) (fun k => ?_) (fun k i _ hi ih => ?_) rfl rfl
  · unfold q4_sumOfNumbers_4
    exact pk_le yn yn (fun _ => h) (fun g => by omega)
  · unfold q4_sumOfNumbers_4
    have := hv i (by omega)
    rw [if_pos hi] at this
    rw [nI_clamp (by omega), this, nI_l (by omega), lN_mul, lN_add, nI_1]
    exact pk_le yn i (fun g => by omega) (fun _ => ⟨pk_in i yn hi, ih⟩)
theorem slotI {k n : Nat} : (nI k * (19 : Int32)) + nI n = nI (k * 19 + n) := by
  rw [show (19 : Int32) = nI 19 from rfl, pk_mul, nI_add]
theorem js_many : JS_many HJ GG := by
  intro h_size h_opened h_tal s0_row s0_made s0_size s1_row s1_made s1_size s2_row s2_made s2_size s3_row s3_made s3_size l_len l_ways l_box w_used w_kind w_size w_left w_last w_top w_wanted c_row c_made c_size t_fac t_der t_rec t_rut t_ris m_n m_order m_shelf m_opens m_lists m_listed m_work m_counts m_older m_products m_part m_parts m_ways m_used m_greaterNow m_countNow a1 a2 hJ
  obtain ⟨n, k, σ, τ, ln, bx, hI, ⟨rfl, rfl, rfl, rfl, rfl, rfl, rfl⟩, hc, hcs, hcl, ht, ⟨rfl, rfl⟩, hmo, hms, hml⟩ := hJ
  have hn := hI.2.1
  have h1n := hI.1
  unfold q6_many
  rcases ix a1 (n := 8) (by decide) with hb | ⟨j, hj, rfl⟩
  · refine c_kd0 hb ⟨fun _ => ?_, fun g => absurd rfl g⟩
    unfold q7_many
    exact m_in0 (M := 7) (by decide) hb (y0 ⟨rfl, n, k, σ, τ, ln, bx, hI, ⟨rfl, rfl, rfl, rfl, rfl, rfl, rfl⟩, hc, hcs, hcl, ht, ⟨rfl, rfl⟩, hmo, hms, hml⟩)
  · refine c_kd1 hj ⟨fun g => absurd g (by decide), fun _ => ?_⟩
    rw [slotI, nI_clamp (by omega)]
    refine ⟨pk_in (j * 19 + n) 152 (by omega), fun _ => t_init4 ht hj h1n hn, fun yn y hG => c_entryG hG (fun v hv e => ?_) (fun hb => ?_)⟩
    · subst e
      rw [show (j * 19 + n) / 19 = j by omega, show (j * 19 + n) % 19 = n by omega]
      unfold q7_many
      refine m_in1 (M := 7) (by decide) (by omega) (y1 (m_findCounts hj h1n hn (fun c' o' pr' pt' pl' hc9 _ => m_in1 (M := 210) (by decide) (by omega) (z1 ⟨pk_in v 211 hv, ?_, n, k, σ, τ, ln, bx, hI, ⟨rfl, rfl, rfl, rfl, rfl, rfl, rfl⟩, hc, hcs, hcl, ht, ⟨rfl, rfl⟩, hmo, hms, hml⟩))))
      rw [nI_clamp (by omega), hc9 v hv]
    · unfold q7_many
      exact m_in1 (M := 7) (by decide) (by omega) (y1 (m_findCounts hj h1n hn (fun c' o' pr' pt' pl' hc9 _ => m_in0 (M := 210) (by decide) hb (z0 ⟨rfl, n, k, σ, τ, ln, bx, hI, ⟨rfl, rfl, rfl, rfl, rfl, rfl, rfl⟩, hc, hcs, hcl, ht, ⟨rfl, rfl⟩, hmo, hms, hml⟩))))
theorem m_mean {n k : Nat} {p : Nat} {c o pr : Nat → Int64} {pt : Nat → Int32} {pl : Int32} {Q : Int64 → (Nat → Int64) → (Nat → Int64) → (Nat → Int64) → (Nat → Int32) → Int32 → Prop} (hk : k < 8) (hp2 : p < 2) (h1n : 1 ≤ n) (hn : n ≤ 18) (hc : ∀ v, v < 211 → c v = lN (CNT k n v)) (hpr : ∀ i, i < 19 → pr i = lN (FAC i)) (h : Q (lN ((if p = 0 then smC k n else FAC n) / Nat.gcd (smC k n) (FAC n))) c o pr pt pl) : ∃ k2, q7_mean_36 (nI n) Q k2 (nI p) 0 0 c o pr pt pl := by
  have hsm := smC_lt hk (show n < 19 by omega)
  obtain ⟨hf0, hf1⟩ := FAC_lt n (by omega)
  have hg := Nat.gcd_pos_of_pos_right (smC k n) hf0
  have hg2 : Nat.gcd (smC k n) (FAC n) ≤ FAC n := Nat.gcd_le_right _ hf0
  have key : ∃ k2, (fun k2 (a : Int64) (b : Int32) => q7_mean_36 (nI n) Q k2 (nI p) a b c o pr pt pl) k2 0 0 := by
    refine up2 (fun k2 (a : Int64) (b : Int32) => q7_mean_36 (nI n) Q k2 (nI p) a b c o pr pt pl) (fun i => lN (fb_sm (fun v => v * CNT k n v) i)) (fun i => nI i) 0 211 (by decide) (fun k2 => ?_) (fun k2 i _ hi ih => ?_) rfl rfl
    · unfold q7_mean_36
      refine pk_lt 210 211 (fun _ => ?_) (fun g => by omega)
      unfold q7_mean_64
      rw [nI_clamp (by omega), hpr n (by omega)]
      refine ⟨pk_in n 19 (by omega), e_common _ _ (by show smC k n < _; omega) (by omega) ?_⟩
      have hne : ¬ lN (Nat.gcd (smC k n) (FAC n)) = 0 := fun e => by have := (pk_lEQ (b := 0) (by omega) (by decide)).mp e; omega
      refine pk_ne p 0 (fun g => ⟨pk_in n 19 (by omega), hne, ?_⟩) (fun g => ⟨hne, ?_⟩)
      · show Q (lN (FAC n) / lN (Nat.gcd (smC k n) (FAC n))) c o pr pt pl
        rw [pk_lDiv (by omega) hg (by omega)]
        rw [if_neg g] at h; exact h
      · show Q (lN (smC k n) / lN (Nat.gcd (smC k n) (FAC n))) c o pr pt pl
        rw [pk_lDiv (by omega) hg (by omega)]
        rw [if_pos g] at h; exact h
    · unfold q7_mean_36
      rw [nI_clamp (by omega), hc i hi, nI_l (by omega), lN_mul, lN_add, nI_1]
      exact pk_lt 210 i (fun g => by omega) (fun _ => ⟨pk_in i 211 hi, ih⟩)
  exact key
theorem js_mean : JS_mean HJ GG := by
  intro h_size h_opened h_tal s0_row s0_made s0_size s1_row s1_made s1_size s2_row s2_made s2_size s3_row s3_made s3_size l_len l_ways l_box w_used w_kind w_size w_left w_last w_top w_wanted c_row c_made c_size t_fac t_der t_rec t_rut t_ris m_n m_order m_shelf m_opens m_lists m_listed m_work m_counts m_older m_products m_part m_parts m_ways m_used m_greaterNow m_countNow a1 a2 hJ
  obtain ⟨n, k, σ, τ, ln, bx, hI, ⟨rfl, rfl, rfl, rfl, rfl, rfl, rfl⟩, hc, hcs, hcl, ht, ⟨rfl, rfl⟩, hmo, hms, hml⟩ := hJ
  have hn := hI.2.1
  have h1n := hI.1
  unfold q6_mean
  rcases ix a1 (n := 8) (by decide) with hb | ⟨j, hj, rfl⟩
  · refine c_kd0 hb ⟨fun _ => ?_, fun g => absurd (Or.inl rfl) g⟩
    unfold q7_mean
    exact m_in0 (M := 7) (by decide) hb (z0 ⟨rfl, n, k, σ, τ, ln, bx, hI, ⟨rfl, rfl, rfl, rfl, rfl, rfl, rfl⟩, hc, hcs, hcl, ht, ⟨rfl, rfl⟩, hmo, hms, hml⟩)
  · rcases ix a2 (n := 2) (by decide) with hb | ⟨p, hp2, rfl⟩
    · have hbad : a2 < 0 ∨ ¬ a2 ≤ 1 := by
        rcases hb with hb | hb
        · exact Or.inl hb
        · refine Or.inr (fun g => ?_)
          rw [Int32.le_iff_toInt_le] at hb g
          have h1 : (1 : Int32).toInt = 1 := rfl
          rw [nI_toInt (by decide)] at hb
          omega
      refine c_kd1 hj ⟨fun _ => ?_, fun g => absurd (Or.inr hbad) g⟩
      unfold q7_mean
      exact m_in1 (M := 7) (by decide) (by omega) (z1 (m_in0 (M := 1) (by decide) hb (y0 ⟨rfl, n, k, σ, τ, ln, bx, hI, ⟨rfl, rfl, rfl, rfl, rfl, rfl, rfl⟩, hc, hcs, hcl, ht, ⟨rfl, rfl⟩, hmo, hms, hml⟩)))
    · have hok : ¬ ((1 : Int32) = 0 ∨ nI p < 0 ∨ ¬ nI p ≤ 1) := fun g => by
        rcases g with g | g | g
        · exact absurd g (by decide)
        · exact absurd g (nI_pos (by omega))
        · exact g (nI_le (b := 1) (by omega) (by decide))
      refine c_kd1 hj ⟨fun g => absurd g hok, fun _ => ?_⟩
      rw [slotI, nI_clamp (by omega)]
      refine ⟨pk_in (j * 19 + n) 152 (by omega), fun _ => t_init4 ht hj h1n hn, fun yn y hG => c_sum hG ?_⟩
      rw [show (j * 19 + n) / 19 = j by omega, show (j * 19 + n) % 19 = n by omega]
      have hsm := smC_lt hj (show n < 19 by omega)
      obtain ⟨hf0, hf1⟩ := FAC_lt n (by omega)
      have hg := Nat.gcd_pos_of_pos_right (smC j n) hf0
      have hg2 : Nat.gcd (smC j n) (FAC n) ≤ FAC n := Nat.gcd_le_right _ hf0
      refine t_ordersOf ht.1 (by omega) (e_commonDivisor (by omega) (by omega) ?_)
      have hfin : q7_mean (nI n) m_counts m_older m_products m_part m_parts (nI j) (nI p) (fun r2 m_counts_2 m_older_2 m_products_2 m_part_2 m_parts_2 => lN ((if p = 0 then smC j n else FAC n) / Nat.gcd (smC j n) (FAC n)) = r2 ∧ HJ (nI n) (nI k) s0_row s0_made (nI n) s1_row s1_made (nI n) s2_row s2_made (nI n) s3_row s3_made (nI n) l_len l_ways l_box w_used w_kind w_size w_left w_last w_top w_wanted c_row c_made (nI n) t_fac t_der t_rec t_rut t_ris (nI n) m_order m_shelf (nI k) m_lists m_listed m_work m_counts_2 m_older_2 m_products_2 m_part_2 m_parts_2 m_ways m_used m_greaterNow m_countNow) := by
        unfold q7_mean
        exact m_in1 (M := 7) (by decide) (by omega) (z1 (m_in1 (M := 1) (by decide) (by omega) (y1 (m_findCounts hj h1n hn (fun c' o' pr' pt' pl' hc9 hp9 => m_mean hj hp2 h1n hn hc9 hp9 ⟨rfl, n, k, σ, τ, ln, bx, hI, ⟨rfl, rfl, rfl, rfl, rfl, rfl, rfl⟩, hc, hcs, hcl, ht, ⟨rfl, rfl⟩, hmo, hms, hml⟩)))))
      by_cases e : p = 0
      · subst e
        rw [if_pos rfl] at hfin
        rw [if_pos (show nI 0 = (0 : Int32) from rfl)]
        exact e_quotient (by omega) (by omega) hg hfin
      · rw [if_neg e] at hfin
        rw [if_neg (nI_ne0 (by omega) (by omega))]
        exact e_quotient (by omega) (by omega) hg hfin
/-! all win by rounds -/
theorem RUT_00 : ∀ n, n < 18 → RUT 0 (n + 1) = 0 := by decide +kernel
theorem lrd_sum {n : Nat} (h1 : 1 ≤ n) (hn : n ≤ 18) : ∀ m, m ≤ n → fb_sm (fun v => CNT 4 n (v + 1)) m = RUT m n := by
  intro m
  induction m with
  | zero =>
    intro _
    have := RUT_00 (n - 1) (by omega)
    rw [show n - 1 + 1 = n by omega] at this
    rw [this]; rfl
  | succ m ih =>
    intro hm
    rw [fb_sm_succ, ih (by omega)]
    have e4 := PS_4 (n - 1) (by omega) (m + 1) (by omega)
    rw [show n - 1 + 1 = n by omega] at e4
    have : CNT 4 n (m + 1) = LRD n (m + 1) := e4
    rw [this]
    unfold LRD
    rw [if_neg (by omega), Nat.add_sub_cancel]
    have := RUT_m n (by omega) m (by omega)
    omega
theorem m_win0 {n k : Nat} {ml md work : Nat → Int32} {c o pr : Nat → Int64} {pt : Nat → Int32} {pl : Int32} {Q : Int64 → (Nat → Int32) → (Nat → Int64) → (Nat → Int64) → (Nat → Int64) → (Nat → Int32) → Int32 → Prop} (h1n : 1 ≤ n) (hn : n ≤ 18) (hk : 1 ≤ k ∧ k ≤ n) (hc : ∀ v, v < 211 → c v = lN (CNT 4 n v)) (h : Q (lN (RUT k n)) work c o pr pt pl) : ∃ k2, q7_allWin_42 (nI n) (nI k) ml md Q k2 0 0 1 work c o pr pt pl := by
  have key : ∃ k2, (fun k2 (a : Int64) (b : Int32) => q7_allWin_42 (nI n) (nI k) ml md Q k2 0 a b work c o pr pt pl) k2 0 1 := by
    refine up2 (fun k2 (a : Int64) (b : Int32) => q7_allWin_42 (nI n) (nI k) ml md Q k2 0 a b work c o pr pt pl) (fun i => lN (fb_sm (fun v => CNT 4 n (v + 1)) i)) (fun i => nI (i + 1)) 0 k (Nat.zero_le _) (fun k2 => ?_) (fun k2 i _ hi ih => ?_) rfl rfl
    · unfold q7_allWin_42
      refine pk_lt k (k + 1) (fun _ => ?_) (fun g => by omega)
      unfold q7_allWin_71
      refine ⟨1, ?_⟩
      unfold q7_allWin_74
      rw [lrd_sum h1n hn k hk.2]
      exact ⟨fun _ => h, fun g => absurd g (by decide)⟩
    · unfold q7_allWin_42
      rw [nI_clamp (by omega), hc _ (by omega), lN_add, nI_1]
      exact pk_lt k (i + 1) (fun g => by omega) (fun _ => ⟨fun g => absurd rfl g, fun _ => ⟨pk_in (i + 1) 211 (by omega), ih⟩⟩)
  exact key
