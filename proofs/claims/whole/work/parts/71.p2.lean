/-! the reference counts thing by thing -/
def CNt (k m v : Nat) : Nat := if k < 2 then REC m v else if k = 2 then RIS m m v else MAH m v
theorem RIS_mm : ∀ m, m < 18 → RIS (m + 1) (m + 1) (m + 1) = 0 := by decide +kernel
theorem CN_1 : ∀ k, k < 6 → ∀ v, v < 211 → CNt k 1 v = if v = (if k < 2 then 1 else 0) then 1 else 0 := by decide +kernel
theorem REC_next {m v : Nat} (h1 : 1 ≤ m) (hm : m < 18) : REC (m + 1) v = REC m v * m + (if v = 0 then 0 else REC m (v - 1)) := by
  by_cases h0 : v = 0
  · subst h0
    rw [if_pos rfl, REC_0 m hm]
    have := REC_0 (m - 1) (by omega)
    rw [show m - 1 + 1 = m by omega] at this
    rw [this, Nat.zero_mul]
  · obtain ⟨u, rfl⟩ : ∃ u, v = u + 1 := ⟨v - 1, by omega⟩
    rw [if_neg h0, Nat.add_sub_cancel]
    by_cases hu : u < 18
    · rw [REC_s m hm u hu, Nat.mul_comm m, Nat.add_comm]
    · rw [REC_z (by omega) (by omega), REC_z (n := m) (by omega) (by omega), REC_z (n := m) (by omega) (by omega), Nat.zero_mul]
theorem m_step {c o : Nat → Int64} {g : Nat → Nat} {Q : (Nat → Int64) → (Nat → Int64) → Prop} (hc : ∀ v, v < 211 → c v = lN (g v)) (h : ∀ c' o' : Nat → Int64, (∀ v, v < 211 → c' v = 0) → (∀ v, v < 211 → o' v = lN (g v)) → Q c' o') : q7_step c o Q := by
  unfold q7_step
  refine lpI (fun k j (s : (Nat → Int64) × (Nat → Int64)) => q7_step_2 Q k (nI j) s.1 s.2) (fun j s => (∀ v, v < j → s.1 v = 0) ∧ (∀ v, v < j → s.2 v = lN (g v)) ∧ (∀ v, j ≤ v → v < 211 → s.1 v = lN (g v))) 0 211 (c, o) (by decide) ⟨fun v hv => by omega, fun v hv => by omega, fun v _ hv => hc v hv⟩ (fun k s hI => ?_) (fun k j s _ hj hI ih => ?_)
  · unfold q7_step_2
    exact pk_lt 210 211 (fun _ => h s.1 s.2 hI.1 hI.2.1) (fun g => by omega)
  · unfold q7_step_2
    obtain ⟨a, b, d⟩ := hI
    rw [nI_clamp (by omega), nI_1]
    refine pk_lt 210 j (fun g => by omega) (fun _ => ⟨pk_in j 211 hj, pk_in j 211 hj, pk_in j 211 hj, ih (vp_updL s.1 j 0, vp_updL s.2 j (s.1 j)) ⟨fun v hv => ?_, fun v hv => ?_, fun v hv hv2 => ?_⟩⟩)
    · by_cases e : v = j
      · subst e; exact pk_uLs
      · exact (pk_uLn e).trans (a v (by omega))
    · by_cases e : v = j
      · subst e; exact pk_uLs.trans (d v (Nat.le_refl _) hj)
      · exact (pk_uLn e).trans (b v (by omega))
    · exact (pk_uLn (by omega)).trans (d v (by omega) hv2)
theorem m_things {n k : Nat} {c o : Nat → Int64} {Q : (Nat → Int64) → (Nat → Int64) → Prop} (hk : k = 0 ∨ k = 1 ∨ k = 2 ∨ k = 5) (h1n : 1 ≤ n) (hn : n ≤ 18) (h : ∀ c' o' : Nat → Int64, (∀ v, v < 211 → c' v = lN (CNt k n v)) → Q c' o') : q7_countByThings (nI n) c o (nI k) Q := by
  unfold q7_countByThings
  have hk8 : k < 6 := by omega
  refine lpI (fun k2 j (c : Nat → Int64) => q7_countByThings_2 (nI n) Q k2 (nI k) (nI j) c o) (fun j c => ∀ v, v < j → c v = lN (CNt k 1 v)) 0 211 c (by decide) (fun v hv => by omega) (fun k2 c hI => ?_) (fun k2 j c _ hj hI ih => ?_)
  · unfold q7_countByThings_2
    refine pk_lt 210 211 (fun _ => ?_) (fun g => by omega)
    unfold q7_countByThings_40
    refine lpI (fun k3 m (s : (Nat → Int64) × (Nat → Int64)) => q7_countByThings_42 (nI n) Q k3 (nI k) (nI m) s.1 s.2) (fun m s => ∀ v, v < 211 → s.1 v = lN (CNt k (m - 1) v)) 2 (n + 1) (c, o) (by omega) hI (fun k3 s hI2 => ?_) (fun k3 m s h2m hm hI2 ih2 => ?_)
    · unfold q7_countByThings_42
      exact pk_lt n (n + 1) (fun _ => h s.1 s.2 hI2) (fun g => by omega)
    · unfold q7_countByThings_42
      refine pk_lt n m (fun g => by omega) (fun _ => m_step hI2 (fun c' o' hc' ho' => ?_))
      refine lpI (fun k4 v (c : Nat → Int64) => q7_countByThings_56 (nI n) (fun v0 v1 v2 v3 => q7_countByThings_42 (nI n) Q k3 v0 v1 v2 v3) Q k4 (nI k) (nI m) (nI v) c o') (fun v c => (∀ u, u < v → c u = lN (CNt k m u)) ∧ (∀ u, v ≤ u → u < 211 → c u = 0)) 0 211 c' (by decide) ⟨fun u hu => by omega, fun u _ hu => hc' u hu⟩ (fun k4 c hI3 => ?_) (fun k4 v c _ hv hI3 ih3 => ?_)
      · unfold q7_countByThings_56
        refine pk_lt 210 211 (fun _ => ?_) (fun g => by omega)
        unfold q7_countByThings_196
        rw [nI_1]
        exact ih2 (c, o') (fun v hv => hI3.1 v hv)
      · obtain ⟨ha, hb⟩ := hI3
        have e1 : nI m - (1 : Int32) = nI (m - 1) := pk_sub (b := 1) (by omega)
        have h190 : ∀ c2 : Nat → Int64, (∀ u, u ≠ v → c2 u = c u) → c2 v = lN (CNt k m v) → q7_countByThings_190 (nI n) (fun v0 v1 v2 v3 => q7_countByThings_42 (nI n) Q k3 v0 v1 v2 v3) (fun v0 v1 v2 v3 v4 => q7_countByThings_56 (nI n) (fun v0 v1 v2 v3 => q7_countByThings_42 (nI n) Q k3 v0 v1 v2 v3) Q k4 v0 v1 v2 v3 v4) Q (nI k) (nI m) (nI v) c2 o' := fun c2 q1 q2 => by
          unfold q7_countByThings_190
          rw [nI_1]
          refine ih3 c2 ⟨fun u hu => ?_, fun u hu hu2 => ?_⟩
          · by_cases e : u = v
            · subst e; exact q2
            · rw [q1 u e]; exact ha u (by omega)
          · rw [q1 u (by omega)]; exact hb u (by omega) hu2
        have h79 : ∀ s0 : Int64, s0 = lN (if v = 0 then 0 else CNt k (m - 1) (v - 1)) → q7_countByThings_79 (nI n) (fun v0 v1 v2 v3 => q7_countByThings_42 (nI n) Q k3 v0 v1 v2 v3) (fun v0 v1 v2 v3 v4 => q7_countByThings_56 (nI n) (fun v0 v1 v2 v3 => q7_countByThings_42 (nI n) Q k3 v0 v1 v2 v3) Q k4 v0 v1 v2 v3 v4) Q s0 (nI k) (nI m) (nI v) c o' := fun s0 es => by
          subst es
          unfold q7_countByThings_79
          refine pk_le 2 k (fun g => pk_ne k 2 (fun g2 => ?_) (fun g2 => pk_le m v (fun g3 => ?_) (fun g3 => ?_))) (fun g => ?_)
          · have hk5 : k = 5 := by omega
            subst hk5
            obtain ⟨r, rfl⟩ : ∃ r, m = r + 2 := ⟨m - 2, by omega⟩
            have hcn : CNt 5 (r + 2) v = mahS (r + 1) v (r + 2) := by
              show MAH (r + 2) v = _
              exact MAH_s r (by omega) v hv
            have hstop : ∀ J c2, (∀ u, u ≠ v → c2 u = c u) → c2 v = lN (mahS (r + 1) v J) → mahS (r + 1) v J = mahS (r + 1) v (r + 2) → q7_countByThings_190 (nI n) (fun v0 v1 v2 v3 => q7_countByThings_42 (nI n) Q k3 v0 v1 v2 v3) (fun v0 v1 v2 v3 v4 => q7_countByThings_56 (nI n) (fun v0 v1 v2 v3 => q7_countByThings_42 (nI n) Q k3 v0 v1 v2 v3) Q k4 v0 v1 v2 v3 v4) Q (nI 5) (nI (r + 2)) (nI v) c2 o' := fun J c2 q1 q2 q3 => h190 c2 q1 (by rw [q2, q3, hcn])
            have hflat : ∀ d J, v < J → mahS (r + 1) v (J + d) = mahS (r + 1) v J := fun d => by
              induction d with
              | zero => intro J _; rfl
              | succ d ihd =>
                intro J hJ
                show mahS (r + 1) v (J + d) + (if J + d ≤ v then _ else 0) = _
                rw [if_neg (by omega), ihd J hJ]; rfl
            refine lpI (fun k5 j (c2 : Nat → Int64) => q7_countByThings_154 (nI n) (fun v0 v1 v2 v3 => q7_countByThings_42 (nI n) Q k3 v0 v1 v2 v3) (fun v0 v1 v2 v3 v4 => q7_countByThings_56 (nI n) (fun v0 v1 v2 v3 => q7_countByThings_42 (nI n) Q k3 v0 v1 v2 v3) Q k4 v0 v1 v2 v3 v4) Q k5 (nI 5) (nI (r + 2)) (nI v) (nI j) c2 o') (fun j c2 => (∀ u, u ≠ v → c2 u = c u) ∧ c2 v = lN (mahS (r + 1) v j)) 0 (min (r + 2) (v + 1)) c (Nat.zero_le _) ⟨fun _ _ => rfl, hb v (Nat.le_refl _) hv⟩ (fun k5 c2 hI5 => ?_) (fun k5 j c2 _ hj hI5 ih5 => ?_)
            · unfold q7_countByThings_154
              have e9 : mahS (r + 1) v (min (r + 2) (v + 1)) = mahS (r + 1) v (r + 2) := by
                by_cases g9 : r + 2 ≤ v + 1
                · rw [Nat.min_eq_left g9]
                · rw [Nat.min_eq_right (by omega), ← hflat (r + 2 - (v + 1)) (v + 1) (by omega), show v + 1 + (r + 2 - (v + 1)) = r + 2 by omega]
              exact pk_le (r + 2) (min (r + 2) (v + 1)) (fun _ => hstop _ c2 hI5.1 hI5.2 e9) (fun g9 => pk_lt v (min (r + 2) (v + 1)) (fun _ => hstop _ c2 hI5.1 hI5.2 e9) (fun g10 => by omega))
            · unfold q7_countByThings_154
              rw [pk_sub (show j ≤ v by omega), nI_clamp (by omega), nI_clamp (by omega), hI5.2, ho' _ (by omega), lN_add, nI_1]
              refine pk_le (r + 2) j (fun g9 => by omega) (fun _ => pk_lt v j (fun g9 => by omega) (fun _ => ⟨pk_in v 211 hv, pk_in (v - j) 211 (by omega), pk_in v 211 hv, ih5 _ ⟨fun u hu => ?_, ?_⟩⟩))
              · rw [pk_uLn hu]; exact hI5.1 u hu
              · rw [pk_uLs]
                show lN (mahS (r + 1) v j + MAH (r + 1) (v - j)) = lN (mahS (r + 1) v j + (if j ≤ v then _ else 0))
                rw [if_pos (by omega)]
          · subst g2
            unfold q7_countByThings_147
            rw [nI_clamp (by omega)]
            refine ⟨pk_in v 211 hv, h190 _ (fun u hu => pk_uLn hu) ?_⟩
            rw [pk_uLs]
            show (0 : Int64) = lN (RIS m m v)
            by_cases e : v = m
            · subst e
              have := RIS_mm (v - 1) (by omega)
              rw [show v - 1 + 1 = v by omega] at this
              rw [this]; rfl
            · rw [RIS_z (by omega) (Or.inr (by omega))]; rfl
          · subst g2
            unfold q7_countByThings_147
            rw [nI_clamp (by omega), ho' v hv, nI_1, nI_l (by omega), pk_sub (by omega), nI_l (by omega), lN_mul, lN_mul, lN_add]
            refine ⟨pk_in v 211 hv, pk_in v 211 hv, h190 _ (fun u hu => pk_uLn hu) ?_⟩
            rw [pk_uLs]
            obtain ⟨r, rfl⟩ : ∃ r, m = r + 2 := ⟨m - 2, by omega⟩
            exact congrArg lN (EUL_s r (by omega) v g3).symm
          · rw [nI_clamp (by omega), ho' v hv, e1, nI_l (by omega), lN_mul, lN_add]
            refine ⟨pk_in v 211 hv, pk_in v 211 hv, h190 _ (fun u hu => pk_uLn hu) ?_⟩
            rw [pk_uLs]
            have er := REC_next (m := m - 1) (v := v) (by omega) (by omega)
            rw [show m - 1 + 1 = m by omega] at er
            unfold CNt
            rw [if_pos g, if_pos g, if_pos g, er]
        unfold q7_countByThings_56
        refine pk_lt 210 v (fun g => by omega) (fun _ => pk_le v 0 (fun g => ?_) (fun g => ?_))
        · have : v = 0 := by omega
          subst this
          exact h79 0 rfl
        · have e2 : nI v - (1 : Int32) = nI (v - 1) := pk_sub (b := 1) (by omega)
          rw [e2, nI_clamp (by omega)]
          exact ⟨pk_in (v - 1) 211 (by omega), h79 _ (by rw [if_neg (by omega)]; exact ho' _ (by omega))⟩
  · unfold q7_countByThings_2
    have hc1 := CN_1 k hk8 j hj
    have h33 : ∀ x : Nat, q7_countByThings_33 (nI n) (fun v0 v1 v2 v3 => q7_countByThings_2 (nI n) Q k2 v0 v1 v2 v3) Q (nI j) (lN x) (nI k) (nI j) c o ↔ vp_in (nI j) 211 ∧ q7_countByThings_2 (nI n) Q k2 (nI k) (nI (j + 1)) (vp_updL c j (lN x)) o := fun x => by
      unfold q7_countByThings_33
      rw [nI_1, nI_clamp (by omega)]
    have hgo : ∀ x : Nat, x = CNt k 1 j → q7_countByThings_33 (nI n) (fun v0 v1 v2 v3 => q7_countByThings_2 (nI n) Q k2 v0 v1 v2 v3) Q (nI j) (lN x) (nI k) (nI j) c o := fun x e => by
      subst e
      refine (h33 _).mpr ⟨pk_in j 211 hj, ih _ (fun v hv => ?_)⟩
      by_cases e : v = j
      · subst e; exact pk_uLs
      · rw [pk_uLn e]; exact hI v (by omega)
    have h25 : ∀ b : Nat, b = (if k < 2 then 1 else 0) → q7_countByThings_25 (nI n) (fun v0 v1 v2 v3 => q7_countByThings_2 (nI n) Q k2 v0 v1 v2 v3) Q (nI j) (nI j) (nI b) (nI k) (nI j) c o := fun b e => by
      unfold q7_countByThings_25
      rw [← e] at hc1
      have hb : b < 2 := by rw [e]; split <;> omega
      refine pk_ne j b (fun g => ?_) (fun g => ?_)
      · rw [if_neg g] at hc1; exact hgo 0 hc1.symm
      · rw [if_pos g] at hc1; exact hgo 1 hc1.symm
    exact pk_lt 210 j (fun g => by omega) (fun _ => pk_le 2 k (fun g => h25 0 (by rw [if_neg (by omega)])) (fun g => h25 1 (by rw [if_pos g])))
