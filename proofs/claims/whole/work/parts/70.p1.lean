/-! partitions: the class and the reference go through them alike -/
def PA (p : Nat → Int32) (f : Nat → Nat) (l : Nat) : Prop := ∀ i, i < l → p i = nI (f i)
def Fo (f : Nat → Nat) (l : Nat) : Prop := 1 ≤ l ∧ l ≤ 18 ∧ ∀ i, i < l → 1 ≤ f i ∧ f i ≤ 18
section Part
variable {p : Nat → Int32} {f : Nat → Nat} {l : Nat}
theorem lik_le (f : Nat → Nat) : ∀ i, 1 ≤ lik f i ∧ lik f i ≤ i + 1 := by
  intro i
  induction i with
  | zero => exact ⟨Nat.le_refl _, Nat.le_refl _⟩
  | succ i ih =>
    simp only [lik]
    split <;> omega
def lkI (f : Nat → Nat) : Nat → Int32
  | 0 => 0
  | i + 1 => nI (lik f i)
theorem c_first {Q : Int32 → Prop} (hp : PA p f l) (hf : Fo f l) (h : Q (nI (f 0))) : q2_firstPart p Q := by
  unfold q2_firstPart
  rw [show (0 : Int32).toNatClampNeg = 0 from rfl, hp 0 hf.1]
  exact ⟨pk_in 0 18 (by decide), h⟩
theorem c_same {Q : Int64 → Prop} (hp : PA p f l) (hf : Fo f l) (h : Q (lN (smS f l))) : q2_sameRounds p (nI l) Q := by
  obtain ⟨h1, h18, hf⟩ := hf
  unfold q2_sameRounds
  refine up3 (q2_sameRounds_7 p (nI l) Q) (fun i => lN (smS f i)) (fun i => lkI f i) (fun i => nI i) 0 l (Nat.zero_le _) (fun k => ?_) (fun k i _ hi ih => ?_) rfl rfl rfl
  · unfold q2_sameRounds_7
    exact pk_le l l (fun _ => h) (fun g => by omega)
  · have h47 : q2_sameRounds_47 p (nI l) (fun v0 v1 v2 => q2_sameRounds_7 p (nI l) Q k v0 v1 v2) Q (nI (lik f i)) (lN (smS f i)) (nI i) := by
      unfold q2_sameRounds_47
      have a := hf i hi
      have b := lik_le f i
      rw [nI_clamp (by omega), hp i hi, nI_l (by omega), nI_l (by omega), lN_mul, lN_mul, nI_1]
      exact ⟨pk_in i 18 (by omega), ih⟩
    unfold q2_sameRounds_7
    refine pk_le l i (fun g => by omega) (fun _ => pk_le i 0 (fun g => ?_) (fun g => ?_))
    · have : i = 0 := by omega
      subst this; exact h47
    · obtain ⟨j, rfl⟩ : ∃ j, i = j + 1 := ⟨i - 1, by omega⟩
      have a := hf (j + 1) hi
      have b := hf j (by omega)
      rw [show nI (j + 1) - (1 : Int32) = nI j from nI_pred j, nI_clamp (by omega), nI_clamp (by omega), hp _ hi, hp j (by omega)]
      refine ⟨pk_in (j + 1) 18 (by omega), pk_in j 18 (by omega), pk_ne (f (j + 1)) (f j) (fun g2 => ?_) (fun g2 => ?_)⟩
      · rw [show lik f (j + 1) = 1 from if_neg g2] at h47; exact h47
      · rw [show lik f (j + 1) = lik f j + 1 from if_pos g2] at h47
        show q2_sameRounds_47 p (nI l) _ Q (nI (lik f j) + 1) _ _
        rw [nI_1]; exact h47
theorem tlS_lim (hf : ∀ i, i < l → 1 ≤ f i ∧ f i ≤ 18) : ∀ i, i ≤ l → tlS f i ∣ 12252240 ∧ 0 < tlS f i ∧ tlS f i ≤ 12252240 := by
  intro i
  induction i with
  | zero => intro _; exact ⟨Nat.one_dvd _, Nat.one_pos, (by decide : 1 ≤ 12252240)⟩
  | succ i ih =>
    intro hi
    have h : tlS f (i + 1) ∣ 12252240 := Nat.lcm_dvd (ih (by omega)).1 (lcm18 _ (hf i (by omega)).1 (hf i (by omega)).2)
    exact ⟨h, Nat.pos_of_dvd_of_pos h (by decide), Nat.le_of_dvd (by decide) h⟩
theorem c_turns {Q : Int32 → Prop} (hp : PA p f l) (hf : Fo f l) (h : Q (nI (tlS f l))) : q2_turns p (nI l) Q := by
  obtain ⟨h1, h18, hf⟩ := hf
  unfold q2_turns
  refine up2 (q2_turns_4 p (nI l) Q) (fun i => nI (tlS f i)) (fun i => nI i) 0 l (Nat.zero_le _) (fun k => ?_) (fun k i _ hi ih => ?_) rfl rfl
  · unfold q2_turns_4
    exact pk_le l l (fun _ => h) (fun g => by omega)
  · unfold q2_turns_4
    have a := hf i hi
    obtain ⟨-, b, c⟩ := tlS_lim hf i (by omega)
    have hm : tlS f i * f i ≤ 12252240 * 18 := Nat.mul_le_mul c a.2
    rw [nI_clamp (by omega), hp i hi]
    refine pk_le l i (fun g => by omega) (fun _ => ⟨pk_in i 18 (by omega), e_commonMultiple b (by omega) (by omega) ?_⟩)
    rw [nI_1]
    exact ih
theorem und_le (f : Nat → Nat) (i c : Nat) : ∀ u, und f i c u ≤ u := by
  intro u
  induction u with
  | zero => exact Nat.le_refl _
  | succ u ih =>
    simp only [und]
    split <;> omega
theorem und_ge (f : Nat → Nat) {i c : Nat} : ∀ u, i ≤ u → i ≤ und f i c u := by
  intro u
  induction u with
  | zero => intro h; exact h
  | succ u ih =>
    intro h
    simp only [und]
    split
    · rename_i g; exact ih (by omega)
    · exact h
theorem chU_b (f : Nat → Nat) {l i : Nat} (hi : i < l) : ∀ c, i ≤ chU f l i c ∧ chU f l i c < l := by
  intro c
  induction c with
  | zero => simp only [chU]; omega
  | succ c ih =>
    simp only [chU]
    have := und_le f i c (chU f l i c)
    exact ⟨und_ge f _ ih.1, by omega⟩
theorem c_hook {Q : Int64 → Prop} (hp : PA p f l) (hf : Fo f l) (h : Q (lN (hkC f l l))) : q2_hookProduct p (nI l) Q := by
  obtain ⟨h1, h18, hf⟩ := hf
  unfold q2_hookProduct
  refine up2 (q2_hookProduct_4 p (nI l) Q) (fun i => lN (hkC f l i)) (fun i => nI i) 0 l (Nat.zero_le _) (fun k => ?_) (fun k i _ hi ih => ?_) rfl rfl
  · unfold q2_hookProduct_4
    exact pk_le l l (fun _ => h) (fun g => by omega)
  · unfold q2_hookProduct_4
    have a := hf i hi
    rw [show nI l - (1 : Int32) = nI (l - 1) from pk_sub (b := 1) h1]
    refine pk_le l i (fun g => by omega) (fun _ => ?_)
    refine up4 (q2_hookProduct_23 p (nI l) _ Q) (fun c => lN (chR f l i (hkC f l i) c)) (fun _ => nI i) (fun c => nI (chU f l i c)) (fun c => nI c) 0 (f i) (Nat.zero_le _) (fun k2 => ?_) (fun k2 c _ hc ih2 => ?_) rfl rfl rfl rfl
    · unfold q2_hookProduct_23
      rw [nI_clamp (by omega), hp i hi]
      refine ⟨pk_in i 18 (by omega), pk_le (f i) (f i) (fun _ => ?_) (fun g => by omega)⟩
      unfold q2_hookProduct_82
      rw [nI_1]
      exact ih
    · unfold q2_hookProduct_23
      rw [nI_clamp (by omega), hp i hi]
      refine ⟨pk_in i 18 (by omega), pk_le (f i) c (fun g => by omega) (fun _ => ?_)⟩
      have hb := chU_b f hi c
      have hb2 := chU_b f hi (c + 1)
      have h58 : q2_hookProduct_58 p (nI l) (fun v0 v1 => q2_hookProduct_4 p (nI l) Q k v0 v1) (fun v0 v1 v2 v3 => q2_hookProduct_23 p (nI l) (fun v0 v1 => q2_hookProduct_4 p (nI l) Q k v0 v1) Q k2 v0 v1 v2 v3) Q (lN (chR f l i (hkC f l i) c)) (nI i) (nI (chU f l i (c + 1))) (nI c) := by
        unfold q2_hookProduct_58
        rw [nI_clamp (by omega), hp i hi, pk_sub (by omega), nI_add, pk_sub (by omega), nI_l (by omega), lN_mul, nI_1]
        exact ⟨pk_in i 18 (by omega), ih2⟩
      have key : ∀ u, u < l → und f i c u = chU f l i (c + 1) → ∃ k3, q2_hookProduct_34 p (nI l) (fun v0 v1 => q2_hookProduct_4 p (nI l) Q k v0 v1) (fun v0 v1 v2 v3 => q2_hookProduct_23 p (nI l) (fun v0 v1 => q2_hookProduct_4 p (nI l) Q k v0 v1) Q k2 v0 v1 v2 v3) Q k3 (lN (chR f l i (hkC f l i) c)) (nI i) (nI u) (nI c) := by
        intro u
        induction u with
        | zero =>
          intro _ e
          refine ⟨1, ?_⟩
          unfold q2_hookProduct_34
          have e : 0 = chU f l i (c + 1) := e
          refine pk_le 0 i (fun _ => ?_) (fun g => by omega)
          have h59 := h58
          rw [← e] at h59
          exact h59
        | succ u ihu =>
          intro hu e
          have au := hf (u + 1) hu
          by_cases g : i < u + 1 ∧ f (u + 1) ≤ c
          · rw [show und f i c (u + 1) = und f i c u from if_pos g] at e
            obtain ⟨k3, hk3⟩ := ihu (by omega) e
            refine ⟨k3 + 1, ?_⟩
            unfold q2_hookProduct_34
            rw [nI_clamp (by omega), hp _ hu]
            refine pk_le (u + 1) i (fun g2 => by omega) (fun _ => ⟨pk_in (u + 1) 18 (by omega), pk_lt c (f (u + 1)) (fun g2 => by omega) (fun _ => ?_)⟩)
            rw [pk_m1]
            exact hk3
          · rw [show und f i c (u + 1) = u + 1 from if_neg g] at e
            have h59 := h58
            rw [← e] at h59
            refine ⟨1, ?_⟩
            unfold q2_hookProduct_34
            rw [nI_clamp (by omega), hp _ hu]
            exact pk_le (u + 1) i (fun _ => h59) (fun g2 => ⟨pk_in (u + 1) 18 (by omega), pk_lt c (f (u + 1)) (fun _ => h59) (fun g3 => by omega)⟩)
      exact key (chU f l i c) hb.2 rfl
theorem m_byRounds {n : Nat} {pr : Nat → Int64} {Q : Int64 → Prop} (hn : n ≤ 18) (hpr : ∀ i, i < 19 → pr i = lN (FAC i)) (hp : PA p f l) (hf : Fo f l) (h : Q (lN (FAC n / smS f l))) : q7_byRounds (nI n) pr p (nI l) Q := by
  obtain ⟨h1, h18, hf⟩ := hf
  unfold q7_byRounds
  rw [nI_clamp (by omega), hpr n (by omega)]
  refine ⟨pk_in n 19 (by omega), ?_⟩
  have hfac := (FAC_lt n (by omega)).2
  refine up3 (q7_byRounds_15 (nI n) pr p (nI l) Q) (fun i => lN (FAC n / smS f i)) (fun i => lkI f i) (fun i => nI i) 0 l (Nat.zero_le _) (fun k => ?_) (fun k i _ hi ih => ?_) (by simp [smS]) rfl rfl
  · unfold q7_byRounds_15
    exact pk_le l l (fun _ => h) (fun g => by omega)
  · have hd : FAC n / smS f i ≤ FAC n := Nat.div_le_self _ _
    have h47 : q7_byRounds_55 (nI n) pr p (nI l) (fun v0 v1 v2 => q7_byRounds_15 (nI n) pr p (nI l) Q k v0 v1 v2) Q (nI (lik f i)) (lN (FAC n / smS f i)) (nI i) := by
      unfold q7_byRounds_55
      have a := hf i hi
      have b := lik_le f i
      have hd2 : FAC n / smS f i / f i ≤ FAC n / smS f i := Nat.div_le_self _ _
      rw [nI_clamp (by omega), hp i hi, nI_l (by omega), nI_l (by omega), pk_lDiv (by omega) (by omega) (by omega), pk_lDiv (by omega) (by omega) (by omega), Nat.div_div_eq_div_mul, Nat.div_div_eq_div_mul, nI_1]
      exact ⟨pk_in i 18 (by omega), fun e => by have := (pk_lEQ (b := 0) (by omega) (by decide)).mp e; omega, fun e => by have := (pk_lEQ (b := 0) (by omega) (by decide)).mp e; omega, ih⟩
    unfold q7_byRounds_15
    refine pk_le l i (fun g => by omega) (fun _ => pk_le i 0 (fun g => ?_) (fun g => ?_))
    · have : i = 0 := by omega
      subst this; exact h47
    · obtain ⟨j, rfl⟩ : ∃ j, i = j + 1 := ⟨i - 1, by omega⟩
      have a := hf (j + 1) hi
      have b := hf j (by omega)
      rw [show nI (j + 1) - (1 : Int32) = nI j from nI_pred j, nI_clamp (by omega), nI_clamp (by omega), hp _ hi, hp j (by omega)]
      refine ⟨pk_in (j + 1) 18 (by omega), pk_in j 18 (by omega), pk_ne (f (j + 1)) (f j) (fun g2 => ?_) (fun g2 => ?_)⟩
      · rw [show lik f (j + 1) = 1 from if_neg g2] at h47; exact h47
      · rw [show lik f (j + 1) = lik f j + 1 from if_pos g2] at h47
        show q7_byRounds_55 (nI n) pr p (nI l) _ Q (nI (lik f j) + 1) _ _
        rw [nI_1]; exact h47
theorem unR_le (f : Nat → Nat) (i c : Nat) : ∀ d, unR f i c d ≤ d := by
  intro d
  induction d with
  | zero => exact Nat.le_refl _
  | succ d ih =>
    simp only [unR]
    split <;> omega
theorem m_byFillings {n : Nat} {pr : Nat → Int64} {Q : Int64 → Prop} (hn : n ≤ 18) (hpr : ∀ i, i < 19 → pr i = lN (FAC i)) (hp : PA p f l) (hf : Fo f l) (hk0 : 0 < hkR f l l) (hk1 : hkR f l l < 2 ^ 63) (h : Q (lN (FAC n / hkR f l l * (FAC n / hkR f l l)))) : q7_byFillings (nI n) pr p (nI l) Q := by
  obtain ⟨h1, h18, hf⟩ := hf
  unfold q7_byFillings
  refine up2 (q7_byFillings_4 (nI n) pr p (nI l) Q) (fun i => lN (hkR f l i)) (fun i => nI i) 0 l (Nat.zero_le _) (fun k => ?_) (fun k i _ hi ih => ?_) rfl rfl
  · unfold q7_byFillings_4
    refine pk_le l l (fun _ => ?_) (fun g => by omega)
    unfold q7_byFillings_99
    have hfac := (FAC_lt n (by omega)).2
    rw [nI_clamp (by omega), hpr n (by omega), pk_lDiv (by omega) hk0 hk1, lN_mul]
    exact ⟨pk_in n 19 (by omega), fun e => by have := (pk_lEQ (b := 0) hk1 (by decide)).mp e; omega, h⟩
  · unfold q7_byFillings_4
    have a := hf i hi
    refine pk_le l i (fun g => by omega) (fun _ => ?_)
    refine up3 (q7_byFillings_15 (nI n) pr p (nI l) _ Q) (fun c => lN (hrR f l i (hkR f l i) c)) (fun _ => nI i) (fun c => nI c) 0 (f i) (Nat.zero_le _) (fun k2 => ?_) (fun k2 c _ hc ih2 => ?_) rfl rfl rfl
    · unfold q7_byFillings_15
      rw [nI_clamp (by omega), hp i hi]
      refine ⟨pk_in i 18 (by omega), pk_le (f i) (f i) (fun _ => ?_) (fun g => by omega)⟩
      unfold q7_byFillings_93
      rw [nI_1]
      exact ih
    · unfold q7_byFillings_15
      rw [nI_clamp (by omega), hp i hi]
      refine ⟨pk_in i 18 (by omega), pk_le (f i) c (fun g => by omega) (fun _ => ?_)⟩
      refine up5 (q7_byFillings_34 (nI n) pr p (nI l) _ _ Q) (fun _ => lN (hrR f l i (hkR f l i) c)) (fun _ => nI i) (fun _ => nI c) (fun d => nI (unR f i c d)) (fun d => nI (i + 1 + d)) 0 (l - (i + 1)) (Nat.zero_le _) (fun k3 => ?_) (fun k3 d _ hd ih3 => ?_) rfl rfl rfl rfl (nI_1 i)
      · unfold q7_byFillings_34
        refine pk_le l (i + 1 + (l - (i + 1))) (fun _ => ?_) (fun g => by omega)
        unfold q7_byFillings_71
        have hu := unR_le f i c (l - (i + 1))
        rw [nI_clamp (by omega), hp i hi, pk_sub (by omega), nI_add, nI_l (by omega), lN_mul, nI_1]
        exact ⟨pk_in i 18 (by omega), ih2⟩
      · unfold q7_byFillings_34
        have b := hf (i + 1 + d) (by omega)
        rw [nI_clamp (by omega), hp _ (by omega)]
        refine pk_le l (i + 1 + d) (fun g => by omega) (fun _ => ⟨pk_in (i + 1 + d) 18 (by omega), pk_le (f (i + 1 + d)) c (fun g => ?_) (fun g => ?_)⟩)
        · unfold q7_byFillings_62
          rw [show unR f i c (d + 1) = unR f i c d by simp only [unR]; rw [if_neg (by omega)]; rfl] at ih3
          rw [nI_1, Int32.add_zero]
          exact ih3
        · unfold q7_byFillings_62
          rw [show unR f i c (d + 1) = unR f i c d + 1 by simp only [unR]; rw [if_pos g]] at ih3
          rw [nI_1, nI_1]
          exact ih3
theorem onS_le (f : Nat → Nat) : ∀ i, onS f i ≤ i := by
  intro i
  induction i with
  | zero => exact Nat.le_refl _
  | succ i ih =>
    simp only [onS]
    split <;> omega
theorem m_shape {k : Nat} {Q : Int32 → Prop} (hk : k < 8) (hp : PA p f l) (hf : Fo f l) (h : Q (nI (if k = 3 then onS f l else if k = 7 then tlS f l else f 0))) : q7_shapeNumber p (nI l) (nI k) Q := by
  obtain ⟨h1, h18, hf⟩ := hf
  unfold q7_shapeNumber
  refine up4 (q7_shapeNumber_7 p (nI l) Q) (fun _ => nI k) (fun i => nI (onS f i)) (fun i => lN (tlS f i)) (fun i => nI i) 0 l (Nat.zero_le _) (fun k2 => ?_) (fun k2 i _ hi ih => ?_) rfl rfl rfl rfl
  · unfold q7_shapeNumber_7
    refine pk_le l l (fun _ => ?_) (fun g => by omega)
    unfold q7_shapeNumber_65
    refine pk_ne k 3 (fun e3 => pk_ne k 7 (fun e7 => ?_) (fun e7 => ?_)) (fun e3 => ?_)
    · rw [if_neg e3, if_neg e7] at h
      rw [show (0 : Int32).toNatClampNeg = 0 from rfl, hp 0 h1]
      exact ⟨pk_in 0 18 (by decide), h⟩
    · rw [if_neg e3, if_pos e7] at h
      rw [lN_i]; exact h
    · rw [if_pos e3] at h; exact h
  · have a := hf i hi
    obtain ⟨-, b, c⟩ := tlS_lim hf i (by omega)
    have h33 : ∀ s1 : Int32, nI (onS f i) + s1 = nI (onS f (i + 1)) → q7_shapeNumber_33 p (nI l) (fun v0 v1 v2 v3 => q7_shapeNumber_7 p (nI l) Q k2 v0 v1 v2 v3) Q (nI (onS f i)) s1 (nI k) (lN (tlS f i)) (nI i) := fun s1 e => by
      unfold q7_shapeNumber_33
      rw [nI_clamp (by omega), hp i hi, nI_l (by omega), e, nI_1]
      have hg := Nat.gcd_pos_of_pos_left (f i) b
      have hg2 := Nat.gcd_le_left (f i) b
      refine ⟨pk_in i 18 (by omega), e_common _ _ (by omega) (by omega) ⟨fun e => by have := (pk_lEQ (b := 0) (by omega) (by decide)).mp e; omega, pk_in i 18 (by omega), ?_⟩⟩
      rw [pk_lDiv (by omega) hg (by omega), lN_mul]
      rw [show tlS f (i + 1) = tlS f i / Nat.gcd (tlS f i) (f i) * f i by
        show Nat.lcm (tlS f i) (f i) = _
        unfold Nat.lcm
        rw [Nat.mul_comm (tlS f i / _), Nat.mul_comm (tlS f i)]
        exact Nat.mul_div_assoc _ (Nat.gcd_dvd_left _ _)] at ih
      exact ih
    unfold q7_shapeNumber_7
    have hb := onS_le f i
    have hci : p (nI i).toNatClampNeg = nI (f i) := by rw [nI_clamp (by omega), hp i hi]
    rw [hci]
    refine pk_le l i (fun g => by omega) (fun _ => ⟨pk_in i 18 (by omega), pk_ne (f i) 1 (fun g => h33 _ ?_) (fun g => h33 _ ?_)⟩)
    · rw [Int32.add_zero, show onS f (i + 1) = onS f i by simp only [onS]; rw [if_neg g]; rfl]
    · rw [nI_1, show onS f (i + 1) = onS f i + 1 by simp only [onS]; rw [if_pos g]]
end Part
/-- the step from one partition to the next -/
def StP (f : Nat → Nat) (l : Nat) (f' : Nat → Nat) (l' c : Nat) : Prop := 1 ≤ c ∧ c ≤ l ∧ (∀ d, d < l - c → f (c + d) = 1) ∧ f (c - 1) = f' (c - 1) + 1 ∧ 1 ≤ f' (c - 1) ∧ (∀ i, i < c - 1 → f' i = f i) ∧ c ≤ l' ∧ l' ≤ 18 ∧ (∀ j, j < l' - c → f' (c + j) = min (rsD f' c (l - c + 1) j) (f' (c - 1)) ∧ 0 < rsD f' c (l - c + 1) j) ∧ rsD f' c (l - c + 1) (l' - c) = 0
theorem rsD_le (f : Nat → Nat) (c r : Nat) : ∀ j, rsD f c r j ≤ r := by
  intro j
  induction j with
  | zero => exact Nat.le_refl _
  | succ j ih => simp only [rsD]; omega
theorem m_next {p : Nat → Int32} {f f' : Nat → Nat} {l l' c : Nat} {Q : Int32 → (Nat → Int32) → Int32 → Prop} (hp : PA p f l) (hf : Fo f l) (hs : StP f l f' l' c) (h : ∀ p', PA p' f' l' → Q 1 p' (nI l')) : q7_nextShape p (nI l) Q := by
  obtain ⟨h1, h18, hf⟩ := hf
  obtain ⟨s1, s2, s3, s4, s5, s6, s7, s8, s9, s10⟩ := hs
  unfold q7_nextShape
  refine up3 (q7_nextShape_2 Q) (fun d => nI d) (fun _ => p) (fun d => nI (l - d)) 0 (l - c) (Nat.zero_le _) (fun k => ?_) (fun k d _ hd ih => ?_) rfl rfl rfl
  · have a := hf (c - 1) (by omega)
    have e1 : nI (l - (l - c)) - (1 : Int32) = nI (c - 1) := by rw [show l - (l - c) = c by omega]; exact pk_sub (b := 1) s1
    have h40 : q7_nextShape_40 Q (nI (l - c)) p (nI (l - (l - c))) := by
      unfold q7_nextShape_40
      rw [e1, nI_clamp (by omega), pk_us, hp (c - 1) (by omega), s4, show nI (f' (c - 1) + 1) - (1 : Int32) = nI (f' (c - 1)) from nI_pred _, nI_1, show l - (l - c) = c by omega]
      refine pk_ne c 0 (fun _ => ⟨pk_in (c - 1) 18 (by omega), pk_in (c - 1) 18 (by omega), pk_in (c - 1) 18 (by omega), ?_⟩) (fun g => by omega)
      refine lpI (fun k2 j (q : Nat → Int32) => q7_nextShape_80 Q k2 (nI (rsD f' c (l - c + 1) j)) (nI (f' (c - 1))) q (nI (c + j))) (fun j q => PA q f' (c + j)) 0 (l' - c) _ (Nat.zero_le _) (fun i hi => ?_) (fun k2 q hI => ?_) (fun k2 j q _ hj hI ih2 => ?_)
      · by_cases e : i = c - 1
        · subst e; exact pk_us
        · rw [pk_un e, hp i (by omega), s6 i (by omega)]
      · unfold q7_nextShape_80
        rw [s10]
        refine pk_le 0 0 (fun _ => ?_) (fun g => by omega)
        rw [show c + (l' - c) = l' by omega] at hI ⊢
        exact h q hI
      · obtain ⟨b1, b2⟩ := s9 j hj
        have hr := rsD_le f' c (l - c + 1) j
        have hw : ∀ v, v = f' (c + j) → q7_nextShape_102 (fun v0 v1 v2 v3 => q7_nextShape_80 Q k2 v0 v1 v2 v3) Q (nI (c + j)) (nI v) (nI (rsD f' c (l - c + 1) j)) (nI (f' (c - 1))) q (nI (c + j)) := fun v e => by
          subst e
          unfold q7_nextShape_102
          rw [nI_clamp (by omega), pk_us, pk_sub (by omega), nI_1]
          refine ⟨pk_in (c + j) 18 (by omega), pk_in (c + j) 18 (by omega), ih2 _ (fun i hi => ?_)⟩
          by_cases e : i = c + j
          · subst e; exact pk_us
          · rw [pk_un e]; exact hI i (by omega)
        unfold q7_nextShape_80
        exact pk_le (rsD f' c (l - c + 1) j) 0 (fun g => by omega) (fun _ => pk_le (f' (c - 1)) (rsD f' c (l - c + 1) j) (fun g => hw _ (by omega)) (fun g => hw _ (by omega)))
    unfold q7_nextShape_2
    rw [e1, nI_clamp (by omega), hp (c - 1) (by omega)]
    exact pk_le (l - (l - c)) 0 (fun g => by omega) (fun _ => ⟨pk_in (c - 1) 18 (by omega), pk_ne (f (c - 1)) 1 (fun _ => h40) (fun g => by omega)⟩)
  · unfold q7_nextShape_2
    have e1 : nI (l - d) - (1 : Int32) = nI (l - (d + 1)) := by rw [show nI (l - d) - (1 : Int32) = nI (l - d - 1) from pk_sub (b := 1) (by omega)]; exact congrArg nI (by omega)
    have e2 : f (l - (d + 1)) = 1 := by have := s3 (l - (d + 1) - c) (by omega); rwa [show c + (l - (d + 1) - c) = l - (d + 1) by omega] at this
    rw [e1, nI_clamp (by omega), hp _ (by omega), e2, nI_1]
    exact pk_le (l - d) 0 (fun g => by omega) (fun _ => ⟨pk_in (l - (d + 1)) 18 (by omega), pk_ne 1 1 (fun g => absurd rfl g) (fun _ => ih)⟩)
theorem m_last {p : Nat → Int32} {f : Nat → Nat} {l : Nat} {Q : Int32 → (Nat → Int32) → Int32 → Prop} (hp : PA p f l) (hl : l ≤ 18) (h1 : ∀ i, i < l → f i = 1) (h : Q 0 p 0) : q7_nextShape p (nI l) Q := by
  unfold q7_nextShape
  refine up3 (q7_nextShape_2 Q) (fun d => nI d) (fun _ => p) (fun d => nI (l - d)) 0 l (Nat.zero_le _) (fun k => ?_) (fun k d _ hd ih => ?_) rfl rfl rfl
  · unfold q7_nextShape_2
    refine pk_le (l - l) 0 (fun _ => ?_) (fun g => by omega)
    unfold q7_nextShape_40
    rw [Nat.sub_self]
    exact ⟨fun g => absurd rfl g, fun _ => h⟩
  · unfold q7_nextShape_2
    have e1 : nI (l - d) - (1 : Int32) = nI (l - (d + 1)) := by rw [show nI (l - d) - (1 : Int32) = nI (l - d - 1) from pk_sub (b := 1) (by omega)]; exact congrArg nI (by omega)
    rw [e1, nI_clamp (by omega), hp _ (by omega), h1 _ (by omega), nI_1]
    exact pk_le (l - d) 0 (fun g => by omega) (fun _ => ⟨pk_in (l - (d + 1)) 18 (by omega), pk_ne 1 1 (fun g => absurd rfl g) (fun _ => ih)⟩)
theorem c_next {p : Nat → Int32} {f f' : Nat → Nat} {l l' c : Nat} {Q : Int32 → (Nat → Int32) → Int32 → Prop} (hp : PA p f l) (hf : Fo f l) (hs : StP f l f' l' c) (h : ∀ p', PA p' f' l' → Q 1 p' (nI l')) : q2_goOn p (nI l) Q := by
  obtain ⟨h1, h18, hf⟩ := hf
  obtain ⟨s1, s2, s3, s4, s5, s6, s7, s8, s9, s10⟩ := hs
  unfold q2_goOn
  rw [show nI l - (1 : Int32) = nI (l - 1) from pk_sub (b := 1) h1]
  refine up3 (q2_goOn_7 Q) (fun d => nI (l - 1 - d)) (fun _ => p) (fun _ => nI l) 0 (l - c) (Nat.zero_le _) (fun k => ?_) (fun k d _ hd ih => ?_) rfl rfl rfl
  · have a := hf (c - 1) (by omega)
    rw [show l - 1 - (l - c) = c - 1 by omega]
    have h27 : q2_goOn_27 Q (nI (c - 1)) p (nI l) := by
      unfold q2_goOn_27
      rw [nI_clamp (by omega), hp (c - 1) (by omega), s4, show nI (f' (c - 1) + 1) - (1 : Int32) = nI (f' (c - 1)) from nI_pred _, pk_sub (by omega), nI_1, show l - (c - 1) = l - c + 1 by omega, show c - 1 + 1 = c by omega]
      refine ⟨fun _ => ⟨pk_in (c - 1) 18 (by omega), pk_in (c - 1) 18 (by omega), ?_⟩, fun g => absurd (nI_pos' (by omega)) g⟩
      refine lpI (fun k2 j (q : Nat → Int32) => q2_goOn_63 Q k2 (nI (rsD f' c (l - c + 1) j)) (nI (f' (c - 1))) q (nI (c + j))) (fun j q => PA q f' (c + j)) 0 (l' - c) _ (Nat.zero_le _) (fun i hi => ?_) (fun k2 q hI => ?_) (fun k2 j q _ hj hI ih2 => ?_)
      · by_cases e : i = c - 1
        · subst e; exact pk_us
        · rw [pk_un e, hp i (by omega), s6 i (by omega)]
      · unfold q2_goOn_63
        rw [s10]
        refine pk_le 0 0 (fun _ => ?_) (fun g => by omega)
        rw [show c + (l' - c) = l' by omega] at hI ⊢
        exact h q hI
      · obtain ⟨b1, b2⟩ := s9 j hj
        have hr := rsD_le f' c (l - c + 1) j
        unfold q2_goOn_63
        rw [nI_min (by omega) (by omega), ← b1, nI_clamp (by omega), pk_us, pk_sub (by omega), nI_1]
        refine pk_le (rsD f' c (l - c + 1) j) 0 (fun g => by omega) (fun _ => pk_le 18 (c + j) (fun g => by omega) (fun _ => ⟨pk_in (c + j) 18 (by omega), pk_in (c + j) 18 (by omega), ih2 _ (fun i hi => ?_)⟩))
        by_cases e : i = c + j
        · subst e; exact pk_us
        · rw [pk_un e]; exact hI i (by omega)
    unfold q2_goOn_7
    rw [nI_clamp (by omega), hp (c - 1) (by omega)]
    exact pk_lt (c - 1) 0 (fun g => by omega) (fun _ => ⟨pk_in (c - 1) 18 (by omega), pk_ne (f (c - 1)) 1 (fun _ => h27) (fun g => by omega)⟩)
  · unfold q2_goOn_7
    have e2 : f (l - 1 - d) = 1 := by have := s3 (l - 1 - d - c) (by omega); rwa [show c + (l - 1 - d - c) = l - 1 - d by omega] at this
    rw [nI_clamp (by omega), hp _ (by omega), e2]
    refine pk_lt (l - 1 - d) 0 (fun g => by omega) (fun _ => ⟨pk_in (l - 1 - d) 18 (by omega), pk_ne 1 1 (fun g => absurd rfl g) (fun _ => ?_)⟩)
    rw [show l - 1 - d = l - 1 - (d + 1) + 1 by omega, pk_m1]
    exact ih
theorem c_last {p : Nat → Int32} {f : Nat → Nat} {l : Nat} {Q : Int32 → (Nat → Int32) → Int32 → Prop} (hp : PA p f l) (h1l : 1 ≤ l) (hl : l ≤ 18) (h1 : ∀ i, i < l → f i = 1) (h : Q 0 p (nI l)) : q2_goOn p (nI l) Q := by
  unfold q2_goOn
  have key : ∀ u, u < l → ∃ k, q2_goOn_7 Q k (nI u) p (nI l) := by
    have h27 : q2_goOn_7 Q 1 (-1) p (nI l) := by
      unfold q2_goOn_7 q2_goOn_27
      exact ⟨fun _ => ⟨fun g => absurd g (by decide), fun _ => h⟩, fun g => absurd (by decide) g⟩
    intro u
    induction u with
    | zero =>
      intro hu
      refine ⟨2, ?_⟩
      unfold q2_goOn_7
      rw [nI_clamp (by decide), hp 0 hu, h1 0 hu]
      refine pk_lt 0 0 (fun g => by omega) (fun _ => ⟨pk_in 0 18 (by decide), pk_ne 1 1 (fun g => absurd rfl g) (fun _ => ?_)⟩)
      exact h27
    | succ u ih =>
      intro hu
      obtain ⟨k, hk⟩ := ih (by omega)
      refine ⟨k + 1, ?_⟩
      unfold q2_goOn_7
      rw [nI_clamp (by omega), hp _ hu, h1 _ hu]
      refine pk_lt (u + 1) 0 (fun g => by omega) (fun _ => ⟨pk_in (u + 1) 18 (by omega), pk_ne 1 1 (fun g => absurd rfl g) (fun _ => ?_)⟩)
      rw [pk_m1]
      exact hk
  rw [show nI l - (1 : Int32) = nI (l - 1) from pk_sub (b := 1) h1l]
  exact key (l - 1) (by omega)
