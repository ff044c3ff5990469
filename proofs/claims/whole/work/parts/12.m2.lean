set_option maxHeartbeats 4000000 in
set_option maxRecDepth 100000 in
theorem c7_isRecord (l : Launch) (dC : Nat → ClassId) (dI : Nat → Nat → Nat) (cs : Nat → ClassId) (ad : Nat → Nat) (m_n : Int32) (m_order : Nat → Int32) (m_shelf : Nat → Int32) (m_opens : Int32) (m_lists : Nat → Int32) (m_listed : Nat → Int32) (m_work : Nat → Int32) (m_counts : Nat → Int64) (m_older : Nat → Int64) (m_products : Nat → Int64) (m_part : Nat → Int32) (m_parts : Int32) (m_ways : Nat → Int64) (m_used : Int32) (m_greaterNow : Int32) (m_countNow : Int32) (a1 : Int32) {Q : Int32 → Prop} (hq : q7_isRecord m_order a1 Q) : Met l yX7_isRecord (.code yX7_isRecord cX7_isRecord 4 (some .boolean) :: gt) ({ frames := 0, cells := 0, slots := 0, locals := 0 } : Room) (va_Pc [.ref (ad 0), .int a1] (Pr (dC, dI) (KA cs) (wX7 cs ad m_n m_order m_shelf m_opens m_lists m_listed m_work m_counts m_older m_products m_part m_parts m_ways m_used m_greaterNow m_countNow))) (vp_Si Q) 0 0 (fun _ => False) := by
  refine Met.ofW (cc := cX7_isRecord) (maxL := 4) (ret := (some .boolean)) (by decide) rfl ?_
  intro p e s m args below meth c s₁ B hml hv
  obtain ⟨rfl, hP, hK, hN⟩ := hv
  have hx := B.exec
  have hb := B.bytes
  have hr := B.returns
  have hts0 := atoms_spec (ws := (.code yX7_isRecord cX7_isRecord 4 (some .boolean) :: gt)) B.pre
  have hts : ∀ w ∈ gt, w.before _ s = true := fun w h => hts0 w (List.mem_cons_of_mem _ h)
  have hown : s.vm.findClass RX7 = some m.cls := findClass_of_methodNamed B.named
  have hlocks := B.notSynchronized
  have hl := lv_entry ([.ref (ad 0), .int a1]) (n := 4) (Nat.le_of_ble_eq_true rfl)
  rw [lg_entry_eq]
  generalize (lg_sl ([.ref (ad 0), .int a1]) ++ List.replicate (4 - (lg_sl ([.ref (ad 0), .int a1])).length) Slot.unset).toArray = ls at hl ⊢
  have hl : lv_has ls 4 [(0, .ref (ad 0)), (1, .int a1)] := hl
  have B4 : ∀ (k4 : Nat) (x1 : Int32) (x2 : Int32) (x3 : Int32) (ls : Array Slot), q7_isRecord_4 m_order Q k4 x1 x2 x3 → lv_has ls 4 [(0, .ref (ad 0)), (1, .int x1), (2, .int x2), (3, .int x3)] → W p l e ({ frames := 0, cells := 0, slots := 0, locals := 0 } : Room) s m ([.ref (ad 0), .int a1] : List Value).toArray below meth c s.heap [] 0 0 (MQ below (vp_Si Q) ([.ref (ad 0), .int a1] : List Value).toArray s 0 0 (fun _ => False)) (F0 m 4 ls []) := by
    intro k4
    induction k4 with
    | zero => intro x1 x2 x3 ls hq; exact False.elim hq
    | succ k4 ih4 =>
      intro x1 x2 x3 ls hq hl
      have B33 : ∀ (s0 : Int32) (x1 : Int32) (x3 : Int32) (ls : Array Slot), q7_isRecord_33 m_order (fun v0 v1 v2 => q7_isRecord_4 m_order Q k4 v0 v1 v2) Q s0 x1 x3 → lv_has ls 4 [(0, .ref (ad 0)), (1, .int x1), (3, .int x3)] → W p l e ({ frames := 0, cells := 0, slots := 0, locals := 0 } : Room) s m ([.ref (ad 0), .int a1] : List Value).toArray below meth c s.heap [] 0 0 (MQ below (vp_Si Q) ([.ref (ad 0), .int a1] : List Value).toArray s 0 0 (fun _ => False)) (F0 m 33 ls [.int s0]) := by
        intro s0 x1 x3 ls hq hl
        unfold q7_isRecord_33 at hq
        refine lv_istore_n (lv' := [(2, .int s0), (0, .ref (ad 0)), (1, .int x1), (3, .int x3)]) hx hb dX7_isRecord_33 rfl hl (by decide) rfl (fun ls hl => ?_)
        refine lv_iinc (v := (x3 + (1 : Int32))) (lv' := [(3, .int (x3 + (1 : Int32))), (2, .int s0), (0, .ref (ad 0)), (1, .int x1)]) hx hb dX7_isRecord_34 hl (k := 3) rfl (by rfl) (by decide) rfl (fun ls hl => ?_)
        refine lv_goto (tgt := 4) hx hb dX7_isRecord_37 (by decide) ?_
        exact ih4 x1 s0 (x3 + (1 : Int32)) _ hq (lv_sub hl [2, 3, 1, 0] rfl)
      unfold q7_isRecord_4 at hq
      refine lv_iload_n hx hb dX7_isRecord_4 rfl (lv_at hl 3 rfl) ?_
      refine lv_iload_n hx hb dX7_isRecord_5 rfl (lv_at hl 1 rfl) ?_
      refine lv_icmp_ge (tgt := 40) hx hb dX7_isRecord_6 (by decide) (fun c6 => ?_) (fun c6 => ?_)
      · have hq := hq.1 c6
        refine lv_iload_n hx hb dX7_isRecord_40 rfl (lv_at hl 2 rfl) ?_
        obtain ⟨zb, hq⟩ := hq
        exact W.zret (ty := .boolean) (v := x2) hx hb hr (by rcases zb with h9 | h9 <;> rw [h9] <;> rfl) (fun t ht hW => ⟨x2, rfl, hq, ht⟩) (fun q h => absurd h List.not_mem_nil) dX7_isRecord_41
      · have hq := hq.2 c6
        refine lv_iload_n hx hb dX7_isRecord_9 rfl (lv_at hl 2 rfl) ?_
        refine lv_if_eq (tgt := 32) hx hb dX7_isRecord_10 (by decide) (fun c7 => ?_) (fun c7 => ?_)
        · have hq := hq.1 c7
          refine lv_iconst (v := (0 : Int32)) hx hb dX7_isRecord_32 (by decide) ?_
          exact B33 (0 : Int32) x1 x3 _ hq (lv_sub hl [0, 1, 3] rfl)
        · have hq := hq.2 c7
          refine lv_aload_n hx hb dX7_isRecord_13 rfl (lv_at hl 0 rfl) ?_
          refine va_get (D := (dC, dI)) (ci := 7) (v := .ref (ad 1)) (C := RX7) (T := TX7) (N := 16) hx hb hts uwX7 hown hK hP 0 rfl rfl 1 (by decide) (hts _ fl_X7_13) (fun _ h9 => h9) rfl dX7_isRecord_14 ?_
          refine lv_iload_n hx hb dX7_isRecord_17 rfl (lv_at hl 3 rfl) ?_
          obtain ⟨i8, hq⟩ := hq
          refine va_iald hx hb hK hP 1 0 rfl rfl i8 dX7_isRecord_18 ?_
          refine lv_aload_n hx hb dX7_isRecord_19 rfl (lv_at hl 0 rfl) ?_
          refine va_get (D := (dC, dI)) (ci := 7) (v := .ref (ad 1)) (C := RX7) (T := TX7) (N := 16) hx hb hts uwX7 hown hK hP 0 rfl rfl 1 (by decide) (hts _ fl_X7_13) (fun _ h9 => h9) rfl dX7_isRecord_20 ?_
          refine lv_iload_n hx hb dX7_isRecord_23 rfl (lv_at hl 1 rfl) ?_
          obtain ⟨i9, hq⟩ := hq
          refine va_iald hx hb hK hP 1 0 rfl rfl i9 dX7_isRecord_24 ?_
          refine lv_icmp_ge (tgt := 32) hx hb dX7_isRecord_25 (by decide) (fun c10 => ?_) (fun c10 => ?_)
          · have hq := hq.1 c10
            refine lv_iconst (v := (0 : Int32)) hx hb dX7_isRecord_32 (by decide) ?_
            exact B33 (0 : Int32) x1 x3 _ hq (lv_sub hl [0, 1, 3] rfl)
          · have hq := hq.2 c10
            refine lv_iconst (v := (1 : Int32)) hx hb dX7_isRecord_28 (by decide) ?_
            refine lv_goto (tgt := 33) hx hb dX7_isRecord_29 (by decide) ?_
            exact B33 (1 : Int32) x1 x3 _ hq (lv_sub hl [0, 1, 3] rfl)
  unfold q7_isRecord at hq
  refine lv_iconst (v := (1 : Int32)) hx hb dX7_isRecord_0 (by decide) ?_
  refine lv_istore_n (lv' := [(2, .int (1 : Int32)), (0, .ref (ad 0)), (1, .int a1)]) hx hb dX7_isRecord_1 rfl hl (by decide) rfl (fun ls hl => ?_)
  refine lv_iconst (v := (0 : Int32)) hx hb dX7_isRecord_2 (by decide) ?_
  refine lv_istore_n (lv' := [(3, .int (0 : Int32)), (2, .int (1 : Int32)), (0, .ref (ad 0)), (1, .int a1)]) hx hb dX7_isRecord_3 rfl hl (by decide) rfl (fun ls hl => ?_)
  obtain ⟨kf, hq⟩ := hq
  exact B4 kf a1 (1 : Int32) (0 : Int32) _ hq (lv_sub hl [2, 3, 1, 0] rfl)
set_option maxHeartbeats 4000000 in
set_option maxRecDepth 100000 in
theorem c7_isFirst (l : Launch) (dC : Nat → ClassId) (dI : Nat → Nat → Nat) (cs : Nat → ClassId) (ad : Nat → Nat) (m_n : Int32) (m_order : Nat → Int32) (m_shelf : Nat → Int32) (m_opens : Int32) (m_lists : Nat → Int32) (m_listed : Nat → Int32) (m_work : Nat → Int32) (m_counts : Nat → Int64) (m_older : Nat → Int64) (m_products : Nat → Int64) (m_part : Nat → Int32) (m_parts : Int32) (m_ways : Nat → Int64) (m_used : Int32) (m_greaterNow : Int32) (m_countNow : Int32) (a1 : Int32) {Q : Int32 → Prop} (hq : q7_isFirst m_order a1 Q) : Met l yX7_isFirst (.code yX7_isFirst cX7_isFirst 4 (some .boolean) :: gt) ({ frames := 0, cells := 0, slots := 0, locals := 0 } : Room) (va_Pc [.ref (ad 0), .int a1] (Pr (dC, dI) (KA cs) (wX7 cs ad m_n m_order m_shelf m_opens m_lists m_listed m_work m_counts m_older m_products m_part m_parts m_ways m_used m_greaterNow m_countNow))) (vp_Si Q) 0 0 (fun _ => False) := by
  refine Met.ofW (cc := cX7_isFirst) (maxL := 4) (ret := (some .boolean)) (by decide) rfl ?_
  intro p e s m args below meth c s₁ B hml hv
  obtain ⟨rfl, hP, hK, hN⟩ := hv
  have hx := B.exec
  have hb := B.bytes
  have hr := B.returns
  have hts0 := atoms_spec (ws := (.code yX7_isFirst cX7_isFirst 4 (some .boolean) :: gt)) B.pre
  have hts : ∀ w ∈ gt, w.before _ s = true := fun w h => hts0 w (List.mem_cons_of_mem _ h)
  have hown : s.vm.findClass RX7 = some m.cls := findClass_of_methodNamed B.named
  have hlocks := B.notSynchronized
  have hl := lv_entry ([.ref (ad 0), .int a1]) (n := 4) (Nat.le_of_ble_eq_true rfl)
  rw [lg_entry_eq]
  generalize (lg_sl ([.ref (ad 0), .int a1]) ++ List.replicate (4 - (lg_sl ([.ref (ad 0), .int a1])).length) Slot.unset).toArray = ls at hl ⊢
  have hl : lv_has ls 4 [(0, .ref (ad 0)), (1, .int a1)] := hl
  have B9 : ∀ (k9 : Nat) (x1 : Int32) (x2 : Int32) (x3 : Int32) (ls : Array Slot), q7_isFirst_9 m_order Q k9 x1 x2 x3 → lv_has ls 4 [(0, .ref (ad 0)), (1, .int x1), (2, .int x2), (3, .int x3)] → W p l e ({ frames := 0, cells := 0, slots := 0, locals := 0 } : Room) s m ([.ref (ad 0), .int a1] : List Value).toArray below meth c s.heap [] 0 0 (MQ below (vp_Si Q) ([.ref (ad 0), .int a1] : List Value).toArray s 0 0 (fun _ => False)) (F0 m 9 ls []) := by
    intro k9
    induction k9 with
    | zero => intro x1 x2 x3 ls hq; exact False.elim hq
    | succ k9 ih9 =>
      intro x1 x2 x3 ls hq hl
      have B28 : ∀ (s0 : Int32) (x1 : Int32) (x3 : Int32) (ls : Array Slot), q7_isFirst_28 m_order (fun v0 v1 v2 => q7_isFirst_9 m_order Q k9 v0 v1 v2) Q s0 x1 x3 → lv_has ls 4 [(0, .ref (ad 0)), (1, .int x1), (3, .int x3)] → W p l e ({ frames := 0, cells := 0, slots := 0, locals := 0 } : Room) s m ([.ref (ad 0), .int a1] : List Value).toArray below meth c s.heap [] 0 0 (MQ below (vp_Si Q) ([.ref (ad 0), .int a1] : List Value).toArray s 0 0 (fun _ => False)) (F0 m 28 ls [.int s0]) := by
        intro s0 x1 x3 ls hq hl
        unfold q7_isFirst_28 at hq
        refine lv_istore_n (lv' := [(2, .int s0), (0, .ref (ad 0)), (1, .int x1), (3, .int x3)]) hx hb dX7_isFirst_28 rfl hl (by decide) rfl (fun ls hl => ?_)
        refine lv_aload_n hx hb dX7_isFirst_29 rfl (lv_at hl 1 rfl) ?_
        refine va_get (D := (dC, dI)) (ci := 7) (v := .ref (ad 1)) (C := RX7) (T := TX7) (N := 16) hx hb hts uwX7 hown hK hP 0 rfl rfl 1 (by decide) (hts _ fl_X7_13) (fun _ h9 => h9) rfl dX7_isFirst_30 ?_
        refine lv_iload_n hx hb dX7_isFirst_33 rfl (lv_at hl 3 rfl) ?_
        obtain ⟨i6, hq⟩ := hq
        refine va_iald hx hb hK hP 1 0 rfl rfl i6 dX7_isFirst_34 ?_
        refine lv_istore_n (lv' := [(3, .int (m_order x3.toNatClampNeg)), (2, .int s0), (0, .ref (ad 0)), (1, .int x1)]) hx hb dX7_isFirst_35 rfl hl (by decide) rfl (fun ls hl => ?_)
        refine lv_goto (tgt := 9) hx hb dX7_isFirst_36 (by decide) ?_
        exact ih9 x1 s0 (m_order x3.toNatClampNeg) _ hq (lv_sub hl [2, 3, 1, 0] rfl)
      unfold q7_isFirst_9 at hq
      refine lv_iload_n hx hb dX7_isFirst_9 rfl (lv_at hl 3 rfl) ?_
      refine lv_iload_n hx hb dX7_isFirst_10 rfl (lv_at hl 1 rfl) ?_
      refine lv_icmp_eq (tgt := 39) hx hb dX7_isFirst_11 (by decide) (fun c7 => ?_) (fun c7 => ?_)
      · have hq := hq.1 c7
        refine lv_iload_n hx hb dX7_isFirst_39 rfl (lv_at hl 2 rfl) ?_
        obtain ⟨zb, hq⟩ := hq
        exact W.zret (ty := .boolean) (v := x2) hx hb hr (by rcases zb with h9 | h9 <;> rw [h9] <;> rfl) (fun t ht hW => ⟨x2, rfl, hq, ht⟩) (fun q h => absurd h List.not_mem_nil) dX7_isFirst_40
      · have hq := hq.2 c7
        refine lv_iload_n hx hb dX7_isFirst_14 rfl (lv_at hl 2 rfl) ?_
        refine lv_if_eq (tgt := 27) hx hb dX7_isFirst_15 (by decide) (fun c8 => ?_) (fun c8 => ?_)
        · have hq := hq.1 c8
          refine lv_iconst (v := (0 : Int32)) hx hb dX7_isFirst_27 (by decide) ?_
          exact B28 (0 : Int32) x1 x3 _ hq (lv_sub hl [0, 1, 3] rfl)
        · have hq := hq.2 c8
          refine lv_iload_n hx hb dX7_isFirst_18 rfl (lv_at hl 3 rfl) ?_
          refine lv_iload_n hx hb dX7_isFirst_19 rfl (lv_at hl 1 rfl) ?_
          refine lv_icmp_le (tgt := 27) hx hb dX7_isFirst_20 (by decide) (fun c9 => ?_) (fun c9 => ?_)
          · have hq := hq.1 c9
            refine lv_iconst (v := (0 : Int32)) hx hb dX7_isFirst_27 (by decide) ?_
            exact B28 (0 : Int32) x1 x3 _ hq (lv_sub hl [0, 1, 3] rfl)
          · have hq := hq.2 c9
            refine lv_iconst (v := (1 : Int32)) hx hb dX7_isFirst_23 (by decide) ?_
            refine lv_goto (tgt := 28) hx hb dX7_isFirst_24 (by decide) ?_
            exact B28 (1 : Int32) x1 x3 _ hq (lv_sub hl [0, 1, 3] rfl)
  unfold q7_isFirst at hq
  refine lv_iconst (v := (1 : Int32)) hx hb dX7_isFirst_0 (by decide) ?_
  refine lv_istore_n (lv' := [(2, .int (1 : Int32)), (0, .ref (ad 0)), (1, .int a1)]) hx hb dX7_isFirst_1 rfl hl (by decide) rfl (fun ls hl => ?_)
  refine lv_aload_n hx hb dX7_isFirst_2 rfl (lv_at hl 1 rfl) ?_
  refine va_get (D := (dC, dI)) (ci := 7) (v := .ref (ad 1)) (C := RX7) (T := TX7) (N := 16) hx hb hts uwX7 hown hK hP 0 rfl rfl 1 (by decide) (hts _ fl_X7_13) (fun _ h9 => h9) rfl dX7_isFirst_3 ?_
  refine lv_iload_n hx hb dX7_isFirst_6 rfl (lv_at hl 2 rfl) ?_
  obtain ⟨i10, hq⟩ := hq
  refine va_iald hx hb hK hP 1 0 rfl rfl i10 dX7_isFirst_7 ?_
  refine lv_istore_n (lv' := [(3, .int (m_order a1.toNatClampNeg)), (2, .int (1 : Int32)), (0, .ref (ad 0)), (1, .int a1)]) hx hb dX7_isFirst_8 rfl hl (by decide) rfl (fun ls hl => ?_)
  obtain ⟨kf, hq⟩ := hq
  exact B9 kf a1 (1 : Int32) (m_order a1.toNatClampNeg) _ hq (lv_sub hl [2, 3, 1, 0] rfl)
set_option maxHeartbeats 4000000 in
set_option maxRecDepth 100000 in
theorem c7_longestRise (l : Launch) (dC : Nat → ClassId) (dI : Nat → Nat → Nat) (cs : Nat → ClassId) (ad : Nat → Nat) (sz : Nat) (m_n : Int32) (m_order : Nat → Int32) (m_shelf : Nat → Int32) (m_opens : Int32) (m_lists : Nat → Int32) (m_listed : Nat → Int32) (m_work : Nat → Int32) (m_counts : Nat → Int64) (m_older : Nat → Int64) (m_products : Nat → Int64) (m_part : Nat → Int32) (m_parts : Int32) (m_ways : Nat → Int64) (m_used : Int32) (m_greaterNow : Int32) (m_countNow : Int32) {Q : Int32 → (Nat → Int32) → Prop} (hq : q7_longestRise m_n m_order m_work Q) : Met l yX7_longestRise (.code yX7_longestRise cX7_longestRise 4 (some .int) :: gt) ({ frames := 0, cells := 0, slots := 0, locals := 0 } : Room) (va_Pc [.ref (ad 0)] (Pw (dC, dI) (KA cs) (wX7 cs ad m_n m_order m_shelf m_opens m_lists m_listed m_work m_counts m_older m_products m_part m_parts m_ways m_used m_greaterNow m_countNow) sz)) (va_Qi (fun (r : Int32) (u : (Nat → Int32)) => Q r u) (Bw (dC, dI) (KA cs) (va_A (wX7 cs ad m_n m_order m_shelf m_opens m_lists m_listed m_work m_counts m_older m_products m_part m_parts m_ways m_used m_greaterNow m_countNow) sz) (fun u : (Nat → Int32) => (wX7 cs ad m_n m_order m_shelf m_opens m_lists m_listed u m_counts m_older m_products m_part m_parts m_ways m_used m_greaterNow m_countNow))) (va_A (wX7 cs ad m_n m_order m_shelf m_opens m_lists m_listed m_work m_counts m_older m_products m_part m_parts m_ways m_used m_greaterNow m_countNow) sz)) 0 0 (va_A (wX7 cs ad m_n m_order m_shelf m_opens m_lists m_listed m_work m_counts m_older m_products m_part m_parts m_ways m_used m_greaterNow m_countNow) sz) := by
  refine Met.ofW (cc := cX7_longestRise) (maxL := 4) (ret := (some .int)) (by decide) rfl ?_
  intro p e s m args below meth c s₁ B hml hv
  obtain ⟨rfl, hsz, hP, hK, hD0, hN⟩ := hv
  have hx := B.exec
  have hb := B.bytes
  have hr := B.returns
  have hts0 := atoms_spec (ws := (.code yX7_longestRise cX7_longestRise 4 (some .int) :: gt)) B.pre
  have hts : ∀ w ∈ gt, w.before _ s = true := fun w h => hts0 w (List.mem_cons_of_mem _ h)
  have hown : s.vm.findClass RX7 = some m.cls := findClass_of_methodNamed B.named
  have hlocks := B.notSynchronized
  subst hsz
  have hD := hD0.self (sz := s.heap.size)
  generalize hAe : va_A (wX7 cs ad m_n m_order m_shelf m_opens m_lists m_listed m_work m_counts m_older m_products m_part m_parts m_ways m_used m_greaterNow m_countNow) s.heap.size = A at hD ⊢
  have hA : ∀ q : Nat, s.heap.size ≤ q → A q := fun q h => by rw [← hAe]; exact Or.inr h
  have hS : va_S A s.heap s.heap [] := va_S.rf
  have hl := lv_entry ([.ref (ad 0)]) (n := 4) (Nat.le_of_ble_eq_true rfl)
  rw [lg_entry_eq]
  generalize (lg_sl ([.ref (ad 0)]) ++ List.replicate (4 - (lg_sl ([.ref (ad 0)])).length) Slot.unset).toArray = ls at hl ⊢
  have hl : lv_has ls 4 [(0, .ref (ad 0))] := hl
  have B4 : ∀ (k4 : Nat) (x1 : Int32) (x2 : Int32) (m_work : Nat → Int32) (H : Heap) (locs : List Loc) (ls : Array Slot), q7_longestRise_4 m_n m_order Q k4 x1 x2 m_work → va_P (dC, dI) vwCl (wX7 cs ad m_n m_order m_shelf m_opens m_lists m_listed m_work m_counts m_older m_products m_part m_parts m_ways m_used m_greaterNow m_countNow) H → va_D A (wX7 cs ad m_n m_order m_shelf m_opens m_lists m_listed m_work m_counts m_older m_products m_part m_parts m_ways m_used m_greaterNow m_countNow) → va_S A s.heap H locs → lv_has ls 4 [(0, .ref (ad 0)), (1, .int x1), (2, .int x2)] → W p l e ({ frames := 0, cells := 0, slots := 0, locals := 0 } : Room) s m ([.ref (ad 0)] : List Value).toArray below meth c H locs 0 0 (MQ below (va_Qi (fun (r : Int32) (u : (Nat → Int32)) => Q r u) (Bw (dC, dI) (KA cs) A (fun u : (Nat → Int32) => (wX7 cs ad m_n m_order m_shelf m_opens m_lists m_listed u m_counts m_older m_products m_part m_parts m_ways m_used m_greaterNow m_countNow))) A) ([.ref (ad 0)] : List Value).toArray s 0 0 A) (F0 m 4 ls []) := by
    intro k4
    induction k4 with
    | zero => intro x1 x2 m_work H locs ls hq; exact False.elim hq
    | succ k4 ih4 =>
      intro x1 x2 m_work H locs ls hq hP hD hS hl
      have B107 : ∀ (s0 : Int32) (x2 : Int32) (m_work : Nat → Int32) (H : Heap) (locs : List Loc) (ls : Array Slot), q7_longestRise_107 m_n m_order (fun v0 v1 v2 => q7_longestRise_4 m_n m_order Q k4 v0 v1 v2) Q s0 x2 m_work → va_P (dC, dI) vwCl (wX7 cs ad m_n m_order m_shelf m_opens m_lists m_listed m_work m_counts m_older m_products m_part m_parts m_ways m_used m_greaterNow m_countNow) H → va_D A (wX7 cs ad m_n m_order m_shelf m_opens m_lists m_listed m_work m_counts m_older m_products m_part m_parts m_ways m_used m_greaterNow m_countNow) → va_S A s.heap H locs → lv_has ls 4 [(0, .ref (ad 0)), (2, .int x2)] → W p l e ({ frames := 0, cells := 0, slots := 0, locals := 0 } : Room) s m ([.ref (ad 0)] : List Value).toArray below meth c H locs 0 0 (MQ below (va_Qi (fun (r : Int32) (u : (Nat → Int32)) => Q r u) (Bw (dC, dI) (KA cs) A (fun u : (Nat → Int32) => (wX7 cs ad m_n m_order m_shelf m_opens m_lists m_listed u m_counts m_older m_products m_part m_parts m_ways m_used m_greaterNow m_countNow))) A) ([.ref (ad 0)] : List Value).toArray s 0 0 A) (F0 m 107 ls [.int s0]) := by
        intro s0 x2 m_work H locs ls hq hP hD hS hl
        unfold q7_longestRise_107 at hq
        refine lv_istore_n (lv' := [(1, .int s0), (0, .ref (ad 0)), (2, .int x2)]) hx hb dX7_longestRise_107 rfl hl (by decide) rfl (fun ls hl => ?_)
        refine lv_iinc (v := (x2 + (1 : Int32))) (lv' := [(2, .int (x2 + (1 : Int32))), (1, .int s0), (0, .ref (ad 0))]) hx hb dX7_longestRise_108 hl (k := 2) rfl (by rfl) (by decide) rfl (fun ls hl => ?_)
        refine lv_goto (tgt := 4) hx hb dX7_longestRise_111 (by decide) ?_
        exact ih4 s0 (x2 + (1 : Int32)) m_work _ _ _ hq hP hD hS (lv_sub hl [2, 1, 0] rfl)
      have B87 : ∀ (x1 : Int32) (x2 : Int32) (m_work : Nat → Int32) (H : Heap) (locs : List Loc) (ls : Array Slot), q7_longestRise_87 m_n m_order (fun v0 v1 v2 => q7_longestRise_4 m_n m_order Q k4 v0 v1 v2) Q x1 x2 m_work → va_P (dC, dI) vwCl (wX7 cs ad m_n m_order m_shelf m_opens m_lists m_listed m_work m_counts m_older m_products m_part m_parts m_ways m_used m_greaterNow m_countNow) H → va_D A (wX7 cs ad m_n m_order m_shelf m_opens m_lists m_listed m_work m_counts m_older m_products m_part m_parts m_ways m_used m_greaterNow m_countNow) → va_S A s.heap H locs → lv_has ls 4 [(0, .ref (ad 0)), (1, .int x1), (2, .int x2)] → W p l e ({ frames := 0, cells := 0, slots := 0, locals := 0 } : Room) s m ([.ref (ad 0)] : List Value).toArray below meth c H locs 0 0 (MQ below (va_Qi (fun (r : Int32) (u : (Nat → Int32)) => Q r u) (Bw (dC, dI) (KA cs) A (fun u : (Nat → Int32) => (wX7 cs ad m_n m_order m_shelf m_opens m_lists m_listed u m_counts m_older m_products m_part m_parts m_ways m_used m_greaterNow m_countNow))) A) ([.ref (ad 0)] : List Value).toArray s 0 0 A) (F0 m 87 ls []) := by
        intro x1 x2 m_work H locs ls hq hP hD hS hl
        unfold q7_longestRise_87 at hq
        refine lv_aload_n hx hb dX7_longestRise_87 rfl (lv_at hl 0 rfl) ?_
        refine va_get (D := (dC, dI)) (ci := 7) (v := .ref (ad 5)) (C := RX7) (T := TX7) (N := 16) hx hb hts uwX7 hown hK hP 0 rfl rfl 6 (by decide) (hts _ fl_X7_29) (fun _ h9 => h9) rfl dX7_longestRise_88 ?_
        refine lv_iload_n hx hb dX7_longestRise_91 rfl (lv_at hl 2 rfl) ?_
        obtain ⟨i16, hq⟩ := hq
        refine va_iald hx hb hK hP 5 0 rfl rfl i16 dX7_longestRise_92 ?_
        refine lv_iload_n hx hb dX7_longestRise_93 rfl (lv_at hl 1 rfl) ?_
        refine lv_icmp_le (tgt := 106) hx hb dX7_longestRise_94 (by decide) (fun c17 => ?_) (fun c17 => ?_)
        · have hq := hq.1 c17
          refine lv_iload_n hx hb dX7_longestRise_106 rfl (lv_at hl 1 rfl) ?_
          exact B107 x1 x2 m_work _ _ _ hq hP hD hS (lv_sub hl [0, 2] rfl)
        · have hq := hq.2 c17
          refine lv_aload_n hx hb dX7_longestRise_97 rfl (lv_at hl 0 rfl) ?_
          refine va_get (D := (dC, dI)) (ci := 7) (v := .ref (ad 5)) (C := RX7) (T := TX7) (N := 16) hx hb hts uwX7 hown hK hP 0 rfl rfl 6 (by decide) (hts _ fl_X7_29) (fun _ h9 => h9) rfl dX7_longestRise_98 ?_
          refine lv_iload_n hx hb dX7_longestRise_101 rfl (lv_at hl 2 rfl) ?_
          obtain ⟨i18, hq⟩ := hq
          refine va_iald hx hb hK hP 5 0 rfl rfl i18 dX7_longestRise_102 ?_
          refine lv_goto (tgt := 107) hx hb dX7_longestRise_103 (by decide) ?_
          exact B107 (m_work x2.toNatClampNeg) x2 m_work _ _ _ hq hP hD hS (lv_sub hl [0, 2] rfl)
      have B21 : ∀ (k21 : Nat) (x1 : Int32) (x2 : Int32) (x3 : Int32) (m_work : Nat → Int32) (H : Heap) (locs : List Loc) (ls : Array Slot), q7_longestRise_21 m_n m_order (fun v0 v1 v2 => q7_longestRise_4 m_n m_order Q k4 v0 v1 v2) Q k21 x1 x2 x3 m_work → va_P (dC, dI) vwCl (wX7 cs ad m_n m_order m_shelf m_opens m_lists m_listed m_work m_counts m_older m_products m_part m_parts m_ways m_used m_greaterNow m_countNow) H → va_D A (wX7 cs ad m_n m_order m_shelf m_opens m_lists m_listed m_work m_counts m_older m_products m_part m_parts m_ways m_used m_greaterNow m_countNow) → va_S A s.heap H locs → lv_has ls 4 [(0, .ref (ad 0)), (1, .int x1), (2, .int x2), (3, .int x3)] → W p l e ({ frames := 0, cells := 0, slots := 0, locals := 0 } : Room) s m ([.ref (ad 0)] : List Value).toArray below meth c H locs 0 0 (MQ below (va_Qi (fun (r : Int32) (u : (Nat → Int32)) => Q r u) (Bw (dC, dI) (KA cs) A (fun u : (Nat → Int32) => (wX7 cs ad m_n m_order m_shelf m_opens m_lists m_listed u m_counts m_older m_products m_part m_parts m_ways m_used m_greaterNow m_countNow))) A) ([.ref (ad 0)] : List Value).toArray s 0 0 A) (F0 m 21 ls []) := by
        intro k21
        induction k21 with
        | zero => intro x1 x2 x3 m_work H locs ls hq; exact False.elim hq
        | succ k21 ih21 =>
          intro x1 x2 x3 m_work H locs ls hq hP hD hS hl
          have B80 : ∀ (s1 : Int32) (s2 : Int32) (x1 : Int32) (x2 : Int32) (x3 : Int32) (m_work : Nat → Int32) (H : Heap) (locs : List Loc) (ls : Array Slot), q7_longestRise_80 m_n m_order (fun v0 v1 v2 => q7_longestRise_4 m_n m_order Q k4 v0 v1 v2) (fun v0 v1 v2 v3 => q7_longestRise_21 m_n m_order (fun v0 v1 v2 => q7_longestRise_4 m_n m_order Q k4 v0 v1 v2) Q k21 v0 v1 v2 v3) Q s1 s2 x1 x2 x3 m_work → va_P (dC, dI) vwCl (wX7 cs ad m_n m_order m_shelf m_opens m_lists m_listed m_work m_counts m_older m_products m_part m_parts m_ways m_used m_greaterNow m_countNow) H → va_D A (wX7 cs ad m_n m_order m_shelf m_opens m_lists m_listed m_work m_counts m_older m_products m_part m_parts m_ways m_used m_greaterNow m_countNow) → va_S A s.heap H locs → lv_has ls 4 [(0, .ref (ad 0)), (1, .int x1), (2, .int x2), (3, .int x3)] → W p l e ({ frames := 0, cells := 0, slots := 0, locals := 0 } : Room) s m ([.ref (ad 0)] : List Value).toArray below meth c H locs 0 0 (MQ below (va_Qi (fun (r : Int32) (u : (Nat → Int32)) => Q r u) (Bw (dC, dI) (KA cs) A (fun u : (Nat → Int32) => (wX7 cs ad m_n m_order m_shelf m_opens m_lists m_listed u m_counts m_older m_products m_part m_parts m_ways m_used m_greaterNow m_countNow))) A) ([.ref (ad 0)] : List Value).toArray s 0 0 A) (F0 m 80 ls [.int s2, .int s1, .ref (ad 5)]) := by
            intro s1 s2 x1 x2 x3 m_work H locs ls hq hP hD hS hl
            unfold q7_longestRise_80 at hq
            obtain ⟨i19, hq⟩ := hq
            refine va_iast hx hb hK hP hD hS 5 0 rfl rfl i19 dX7_longestRise_80 (fun H locs hP hD hS => ?_)
            have hP : va_P (dC, dI) vwCl (wX7 cs ad m_n m_order m_shelf m_opens m_lists m_listed (upd m_work s1.toNatClampNeg s2) m_counts m_older m_products m_part m_parts m_ways m_used m_greaterNow m_countNow) H := hP
            have hD : va_D A (wX7 cs ad m_n m_order m_shelf m_opens m_lists m_listed (upd m_work s1.toNatClampNeg s2) m_counts m_older m_products m_part m_parts m_ways m_used m_greaterNow m_countNow) := hD
            refine lv_iinc (v := (x3 + (1 : Int32))) (lv' := [(3, .int (x3 + (1 : Int32))), (0, .ref (ad 0)), (1, .int x1), (2, .int x2)]) hx hb dX7_longestRise_81 hl (k := 3) rfl (by rfl) (by decide) rfl (fun ls hl => ?_)
            refine lv_goto (tgt := 21) hx hb dX7_longestRise_84 (by decide) ?_
            exact ih21 x1 x2 (x3 + (1 : Int32)) (upd m_work s1.toNatClampNeg s2) _ _ _ hq hP hD hS (lv_sub hl [1, 2, 3, 0] rfl)
          have B74 : ∀ (s1 : Int32) (x1 : Int32) (x2 : Int32) (x3 : Int32) (m_work : Nat → Int32) (H : Heap) (locs : List Loc) (ls : Array Slot), q7_longestRise_74 m_n m_order (fun v0 v1 v2 => q7_longestRise_4 m_n m_order Q k4 v0 v1 v2) (fun v0 v1 v2 v3 => q7_longestRise_21 m_n m_order (fun v0 v1 v2 => q7_longestRise_4 m_n m_order Q k4 v0 v1 v2) Q k21 v0 v1 v2 v3) Q s1 x1 x2 x3 m_work → va_P (dC, dI) vwCl (wX7 cs ad m_n m_order m_shelf m_opens m_lists m_listed m_work m_counts m_older m_products m_part m_parts m_ways m_used m_greaterNow m_countNow) H → va_D A (wX7 cs ad m_n m_order m_shelf m_opens m_lists m_listed m_work m_counts m_older m_products m_part m_parts m_ways m_used m_greaterNow m_countNow) → va_S A s.heap H locs → lv_has ls 4 [(0, .ref (ad 0)), (1, .int x1), (2, .int x2), (3, .int x3)] → W p l e ({ frames := 0, cells := 0, slots := 0, locals := 0 } : Room) s m ([.ref (ad 0)] : List Value).toArray below meth c H locs 0 0 (MQ below (va_Qi (fun (r : Int32) (u : (Nat → Int32)) => Q r u) (Bw (dC, dI) (KA cs) A (fun u : (Nat → Int32) => (wX7 cs ad m_n m_order m_shelf m_opens m_lists m_listed u m_counts m_older m_products m_part m_parts m_ways m_used m_greaterNow m_countNow))) A) ([.ref (ad 0)] : List Value).toArray s 0 0 A) (F0 m 74 ls [.int s1, .ref (ad 5)]) := by
            intro s1 x1 x2 x3 m_work H locs ls hq hP hD hS hl
            unfold q7_longestRise_74 at hq
            refine lv_aload_n hx hb dX7_longestRise_74 rfl (lv_at hl 0 rfl) ?_
            refine va_get (D := (dC, dI)) (ci := 7) (v := .ref (ad 5)) (C := RX7) (T := TX7) (N := 16) hx hb hts uwX7 hown hK hP 0 rfl rfl 6 (by decide) (hts _ fl_X7_29) (fun _ h9 => h9) rfl dX7_longestRise_75 ?_
            refine lv_iload_n hx hb dX7_longestRise_78 rfl (lv_at hl 2 rfl) ?_
            obtain ⟨i20, hq⟩ := hq
            refine va_iald hx hb hK hP 5 0 rfl rfl i20 dX7_longestRise_79 ?_
            exact B80 s1 (m_work x2.toNatClampNeg) x1 x2 x3 m_work _ _ _ hq hP hD hS (lv_sub hl [0, 1, 2, 3] rfl)
          unfold q7_longestRise_21 at hq
          refine lv_iload_n hx hb dX7_longestRise_21 rfl (lv_at hl 3 rfl) ?_
          refine lv_iload_n hx hb dX7_longestRise_22 rfl (lv_at hl 2 rfl) ?_
          refine lv_icmp_ge (tgt := 87) hx hb dX7_longestRise_23 (by decide) (fun c21 => ?_) (fun c21 => ?_)
          · have hq := hq.1 c21
            exact B87 x1 x2 m_work _ _ _ hq hP hD hS (lv_sub hl [0, 1, 2] rfl)
          · have hq := hq.2 c21
            refine lv_aload_n hx hb dX7_longestRise_26 rfl (lv_at hl 0 rfl) ?_
            refine va_get (D := (dC, dI)) (ci := 7) (v := .ref (ad 5)) (C := RX7) (T := TX7) (N := 16) hx hb hts uwX7 hown hK hP 0 rfl rfl 6 (by decide) (hts _ fl_X7_29) (fun _ h9 => h9) rfl dX7_longestRise_27 ?_
            refine lv_iload_n hx hb dX7_longestRise_30 rfl (lv_at hl 2 rfl) ?_
            refine lv_aload_n hx hb dX7_longestRise_31 rfl (lv_at hl 0 rfl) ?_
            refine va_get (D := (dC, dI)) (ci := 7) (v := .ref (ad 1)) (C := RX7) (T := TX7) (N := 16) hx hb hts uwX7 hown hK hP 0 rfl rfl 1 (by decide) (hts _ fl_X7_13) (fun _ h9 => h9) rfl dX7_longestRise_32 ?_
            refine lv_iload_n hx hb dX7_longestRise_35 rfl (lv_at hl 3 rfl) ?_
            obtain ⟨i22, hq⟩ := hq
            refine va_iald hx hb hK hP 1 0 rfl rfl i22 dX7_longestRise_36 ?_
            refine lv_aload_n hx hb dX7_longestRise_37 rfl (lv_at hl 0 rfl) ?_
            refine va_get (D := (dC, dI)) (ci := 7) (v := .ref (ad 1)) (C := RX7) (T := TX7) (N := 16) hx hb hts uwX7 hown hK hP 0 rfl rfl 1 (by decide) (hts _ fl_X7_13) (fun _ h9 => h9) rfl dX7_longestRise_38 ?_
            refine lv_iload_n hx hb dX7_longestRise_41 rfl (lv_at hl 2 rfl) ?_
            obtain ⟨i23, hq⟩ := hq
            refine va_iald hx hb hK hP 1 0 rfl rfl i23 dX7_longestRise_42 ?_
            refine lv_icmp_ge (tgt := 74) hx hb dX7_longestRise_43 (by decide) (fun c24 => ?_) (fun c24 => ?_)
            · have hq := hq.1 c24
              exact B74 x2 x1 x2 x3 m_work _ _ _ hq hP hD hS (lv_sub hl [0, 1, 2, 3] rfl)
            · have hq := hq.2 c24
              refine lv_aload_n hx hb dX7_longestRise_46 rfl (lv_at hl 0 rfl) ?_
              refine va_get (D := (dC, dI)) (ci := 7) (v := .ref (ad 5)) (C := RX7) (T := TX7) (N := 16) hx hb hts uwX7 hown hK hP 0 rfl rfl 6 (by decide) (hts _ fl_X7_29) (fun _ h9 => h9) rfl dX7_longestRise_47 ?_
              refine lv_iload_n hx hb dX7_longestRise_50 rfl (lv_at hl 3 rfl) ?_
              obtain ⟨i25, hq⟩ := hq
              refine va_iald hx hb hK hP 5 0 rfl rfl i25 dX7_longestRise_51 ?_
              refine lv_iconst (v := (1 : Int32)) hx hb dX7_longestRise_52 (by decide) ?_
              refine lv_iadd hx hb dX7_longestRise_53 ?_
              refine lv_aload_n hx hb dX7_longestRise_54 rfl (lv_at hl 0 rfl) ?_
              refine va_get (D := (dC, dI)) (ci := 7) (v := .ref (ad 5)) (C := RX7) (T := TX7) (N := 16) hx hb hts uwX7 hown hK hP 0 rfl rfl 6 (by decide) (hts _ fl_X7_29) (fun _ h9 => h9) rfl dX7_longestRise_55 ?_
              refine lv_iload_n hx hb dX7_longestRise_58 rfl (lv_at hl 2 rfl) ?_
              obtain ⟨i26, hq⟩ := hq
              refine va_iald hx hb hK hP 5 0 rfl rfl i26 dX7_longestRise_59 ?_
              refine lv_icmp_le (tgt := 74) hx hb dX7_longestRise_60 (by decide) (fun c27 => ?_) (fun c27 => ?_)
              · have hq := hq.1 c27
                exact B74 x2 x1 x2 x3 m_work _ _ _ hq hP hD hS (lv_sub hl [0, 1, 2, 3] rfl)
              · have hq := hq.2 c27
                refine lv_aload_n hx hb dX7_longestRise_63 rfl (lv_at hl 0 rfl) ?_
                refine va_get (D := (dC, dI)) (ci := 7) (v := .ref (ad 5)) (C := RX7) (T := TX7) (N := 16) hx hb hts uwX7 hown hK hP 0 rfl rfl 6 (by decide) (hts _ fl_X7_29) (fun _ h9 => h9) rfl dX7_longestRise_64 ?_
                refine lv_iload_n hx hb dX7_longestRise_67 rfl (lv_at hl 3 rfl) ?_
                obtain ⟨i28, hq⟩ := hq
                refine va_iald hx hb hK hP 5 0 rfl rfl i28 dX7_longestRise_68 ?_
                refine lv_iconst (v := (1 : Int32)) hx hb dX7_longestRise_69 (by decide) ?_
                refine lv_iadd hx hb dX7_longestRise_70 ?_
                refine lv_goto (tgt := 80) hx hb dX7_longestRise_71 (by decide) ?_
                exact B80 x2 ((m_work x3.toNatClampNeg) + (1 : Int32)) x1 x2 x3 m_work _ _ _ hq hP hD hS (lv_sub hl [0, 1, 2, 3] rfl)
      unfold q7_longestRise_4 at hq
      refine lv_iload_n hx hb dX7_longestRise_4 rfl (lv_at hl 2 rfl) ?_
      refine lv_aload_n hx hb dX7_longestRise_5 rfl (lv_at hl 0 rfl) ?_
      refine va_get (D := (dC, dI)) (ci := 7) (v := .int m_n) (C := RX7) (T := TX7) (N := 16) hx hb hts uwX7 hown hK hP 0 rfl rfl 0 (by decide) (hts _ fl_X7_7) (fun _ h9 => h9) rfl dX7_longestRise_6 ?_
      refine lv_icmp_ge (tgt := 114) hx hb dX7_longestRise_9 (by decide) (fun c29 => ?_) (fun c29 => ?_)
      · have hq := hq.1 c29
        refine lv_iload_n hx hb dX7_longestRise_114 rfl (lv_at hl 1 rfl) ?_
        exact W.iret (v := x1) hx hb hr (fun t ht hW => ⟨⟨x1, m_work, rfl, hq, Bw_mk (by rw [ht]; exact hP) (va_K.moved hW.alike hK) hD⟩, hS.F ht⟩) hS.2.2 dX7_longestRise_115
      · have hq := hq.2 c29
        refine lv_aload_n hx hb dX7_longestRise_12 rfl (lv_at hl 0 rfl) ?_
        refine va_get (D := (dC, dI)) (ci := 7) (v := .ref (ad 5)) (C := RX7) (T := TX7) (N := 16) hx hb hts uwX7 hown hK hP 0 rfl rfl 6 (by decide) (hts _ fl_X7_29) (fun _ h9 => h9) rfl dX7_longestRise_13 ?_
        refine lv_iload_n hx hb dX7_longestRise_16 rfl (lv_at hl 2 rfl) ?_
        refine lv_iconst (v := (1 : Int32)) hx hb dX7_longestRise_17 (by decide) ?_
        obtain ⟨i30, hq⟩ := hq
        refine va_iast hx hb hK hP hD hS 5 0 rfl rfl i30 dX7_longestRise_18 (fun H locs hP hD hS => ?_)
        have hP : va_P (dC, dI) vwCl (wX7 cs ad m_n m_order m_shelf m_opens m_lists m_listed (upd m_work x2.toNatClampNeg (1 : Int32)) m_counts m_older m_products m_part m_parts m_ways m_used m_greaterNow m_countNow) H := hP
        have hD : va_D A (wX7 cs ad m_n m_order m_shelf m_opens m_lists m_listed (upd m_work x2.toNatClampNeg (1 : Int32)) m_counts m_older m_products m_part m_parts m_ways m_used m_greaterNow m_countNow) := hD
        refine lv_iconst (v := (0 : Int32)) hx hb dX7_longestRise_19 (by decide) ?_
        refine lv_istore_n (lv' := [(3, .int (0 : Int32)), (0, .ref (ad 0)), (1, .int x1), (2, .int x2)]) hx hb dX7_longestRise_20 rfl hl (by decide) rfl (fun ls hl => ?_)
        obtain ⟨kf, hq⟩ := hq
        exact B21 kf x1 x2 (0 : Int32) (upd m_work x2.toNatClampNeg (1 : Int32)) _ _ _ hq hP hD hS (lv_sub hl [1, 2, 3, 0] rfl)
  unfold q7_longestRise at hq
  refine lv_iconst (v := (0 : Int32)) hx hb dX7_longestRise_0 (by decide) ?_
  refine lv_istore_n (lv' := [(1, .int (0 : Int32)), (0, .ref (ad 0))]) hx hb dX7_longestRise_1 rfl hl (by decide) rfl (fun ls hl => ?_)
  refine lv_iconst (v := (0 : Int32)) hx hb dX7_longestRise_2 (by decide) ?_
  refine lv_istore_n (lv' := [(2, .int (0 : Int32)), (1, .int (0 : Int32)), (0, .ref (ad 0))]) hx hb dX7_longestRise_3 rfl hl (by decide) rfl (fun ls hl => ?_)
  obtain ⟨kf, hq⟩ := hq
  exact B4 kf (0 : Int32) (0 : Int32) m_work _ _ _ hq hP hD hS (lv_sub hl [2, 1, 0] rfl)
set_option maxHeartbeats 4000000 in
set_option maxRecDepth 100000 in
theorem c7_out (l : Launch) (dC : Nat → ClassId) (dI : Nat → Nat → Nat) (cs : Nat → ClassId) (ad : Nat → Nat) (m_n : Int32) (m_order : Nat → Int32) (m_shelf : Nat → Int32) (m_opens : Int32) (m_lists : Nat → Int32) (m_listed : Nat → Int32) (m_work : Nat → Int32) (m_counts : Nat → Int64) (m_older : Nat → Int64) (m_products : Nat → Int64) (m_part : Nat → Int32) (m_parts : Int32) (m_ways : Nat → Int64) (m_used : Int32) (m_greaterNow : Int32) (m_countNow : Int32) {Q : Int32 → Prop} (hq : q7_out m_n m_order Q) : Met l yX7_out (.code yX7_out cX7_out 4 (some .int) :: gt) ({ frames := 0, cells := 0, slots := 0, locals := 0 } : Room) (va_Pc [.ref (ad 0)] (Pr (dC, dI) (KA cs) (wX7 cs ad m_n m_order m_shelf m_opens m_lists m_listed m_work m_counts m_older m_products m_part m_parts m_ways m_used m_greaterNow m_countNow))) (vp_Si Q) 0 0 (fun _ => False) := by
  refine Met.ofW (cc := cX7_out) (maxL := 4) (ret := (some .int)) (by decide) rfl ?_
  intro p e s m args below meth c s₁ B hml hv
  obtain ⟨rfl, hP, hK, hN⟩ := hv
  have hx := B.exec
  have hb := B.bytes
  have hr := B.returns
  have hts0 := atoms_spec (ws := (.code yX7_out cX7_out 4 (some .int) :: gt)) B.pre
  have hts : ∀ w ∈ gt, w.before _ s = true := fun w h => hts0 w (List.mem_cons_of_mem _ h)
  have hown : s.vm.findClass RX7 = some m.cls := findClass_of_methodNamed B.named
  have hlocks := B.notSynchronized
  have hl := lv_entry ([.ref (ad 0)]) (n := 4) (Nat.le_of_ble_eq_true rfl)
  rw [lg_entry_eq]
  generalize (lg_sl ([.ref (ad 0)]) ++ List.replicate (4 - (lg_sl ([.ref (ad 0)])).length) Slot.unset).toArray = ls at hl ⊢
  have hl : lv_has ls 4 [(0, .ref (ad 0))] := hl
  have B4 : ∀ (k4 : Nat) (x1 : Int32) (x2 : Int32) (ls : Array Slot), q7_out_4 m_n m_order Q k4 x1 x2 → lv_has ls 4 [(0, .ref (ad 0)), (1, .int x1), (2, .int x2)] → W p l e ({ frames := 0, cells := 0, slots := 0, locals := 0 } : Room) s m ([.ref (ad 0)] : List Value).toArray below meth c s.heap [] 0 0 (MQ below (vp_Si Q) ([.ref (ad 0)] : List Value).toArray s 0 0 (fun _ => False)) (F0 m 4 ls []) := by
    intro k4
    induction k4 with
    | zero => intro x1 x2 ls hq; exact False.elim hq
    | succ k4 ih4 =>
      intro x1 x2 ls hq hl
      have B53 : ∀ (x1 : Int32) (x2 : Int32) (ls : Array Slot), q7_out_53 m_n m_order (fun v0 v1 => q7_out_4 m_n m_order Q k4 v0 v1) Q x1 x2 → lv_has ls 4 [(0, .ref (ad 0)), (1, .int x1), (2, .int x2)] → W p l e ({ frames := 0, cells := 0, slots := 0, locals := 0 } : Room) s m ([.ref (ad 0)] : List Value).toArray below meth c s.heap [] 0 0 (MQ below (vp_Si Q) ([.ref (ad 0)] : List Value).toArray s 0 0 (fun _ => False)) (F0 m 53 ls []) := by
        intro x1 x2 ls hq hl
        unfold q7_out_53 at hq
        refine lv_iinc (v := (x2 + (1 : Int32))) (lv' := [(2, .int (x2 + (1 : Int32))), (0, .ref (ad 0)), (1, .int x1)]) hx hb dX7_out_53 hl (k := 2) rfl (by rfl) (by decide) rfl (fun ls hl => ?_)
        refine lv_goto (tgt := 4) hx hb dX7_out_56 (by decide) ?_
        exact ih4 x1 (x2 + (1 : Int32)) _ hq (lv_sub hl [1, 2, 0] rfl)
      have B16 : ∀ (k16 : Nat) (x1 : Int32) (x2 : Int32) (x3 : Int32) (ls : Array Slot), q7_out_16 m_n m_order (fun v0 v1 => q7_out_4 m_n m_order Q k4 v0 v1) Q k16 x1 x2 x3 → lv_has ls 4 [(0, .ref (ad 0)), (1, .int x1), (2, .int x2), (3, .int x3)] → W p l e ({ frames := 0, cells := 0, slots := 0, locals := 0 } : Room) s m ([.ref (ad 0)] : List Value).toArray below meth c s.heap [] 0 0 (MQ below (vp_Si Q) ([.ref (ad 0)] : List Value).toArray s 0 0 (fun _ => False)) (F0 m 16 ls []) := by
        intro k16
        induction k16 with
        | zero => intro x1 x2 x3 ls hq; exact False.elim hq
        | succ k16 ih16 =>
          intro x1 x2 x3 ls hq hl
          have B45 : ∀ (s0 : Int32) (s1 : Int32) (x2 : Int32) (x3 : Int32) (ls : Array Slot), q7_out_45 m_n m_order (fun v0 v1 => q7_out_4 m_n m_order Q k4 v0 v1) (fun v0 v1 v2 => q7_out_16 m_n m_order (fun v0 v1 => q7_out_4 m_n m_order Q k4 v0 v1) Q k16 v0 v1 v2) Q s0 s1 x2 x3 → lv_has ls 4 [(0, .ref (ad 0)), (2, .int x2), (3, .int x3)] → W p l e ({ frames := 0, cells := 0, slots := 0, locals := 0 } : Room) s m ([.ref (ad 0)] : List Value).toArray below meth c s.heap [] 0 0 (MQ below (vp_Si Q) ([.ref (ad 0)] : List Value).toArray s 0 0 (fun _ => False)) (F0 m 45 ls [.int s1, .int s0]) := by
            intro s0 s1 x2 x3 ls hq hl
            unfold q7_out_45 at hq
            refine lv_iadd hx hb dX7_out_45 ?_
            refine lv_istore_n (lv' := [(1, .int (s0 + s1)), (0, .ref (ad 0)), (2, .int x2), (3, .int x3)]) hx hb dX7_out_46 rfl hl (by decide) rfl (fun ls hl => ?_)
            refine lv_iinc (v := (x3 + (1 : Int32))) (lv' := [(3, .int (x3 + (1 : Int32))), (1, .int (s0 + s1)), (0, .ref (ad 0)), (2, .int x2)]) hx hb dX7_out_47 hl (k := 3) rfl (by rfl) (by decide) rfl (fun ls hl => ?_)
            refine lv_goto (tgt := 16) hx hb dX7_out_50 (by decide) ?_
            exact ih16 (s0 + s1) x2 (x3 + (1 : Int32)) _ hq (lv_sub hl [2, 1, 3, 0] rfl)
          unfold q7_out_16 at hq
          refine lv_iload_n hx hb dX7_out_16 rfl (lv_at hl 3 rfl) ?_
          refine lv_aload_n hx hb dX7_out_17 rfl (lv_at hl 0 rfl) ?_
          refine va_get (D := (dC, dI)) (ci := 7) (v := .int m_n) (C := RX7) (T := TX7) (N := 16) hx hb hts uwX7 hown hK hP 0 rfl rfl 0 (by decide) (hts _ fl_X7_7) (fun _ h9 => h9) rfl dX7_out_18 ?_
          refine lv_icmp_ge (tgt := 53) hx hb dX7_out_21 (by decide) (fun c6 => ?_) (fun c6 => ?_)
          · have hq := hq.1 c6
            exact B53 x1 x2 _ hq (lv_sub hl [0, 1, 2] rfl)
          · have hq := hq.2 c6
            refine lv_iload_n hx hb dX7_out_24 rfl (lv_at hl 1 rfl) ?_
            refine lv_aload_n hx hb dX7_out_25 rfl (lv_at hl 0 rfl) ?_
            refine va_get (D := (dC, dI)) (ci := 7) (v := .ref (ad 1)) (C := RX7) (T := TX7) (N := 16) hx hb hts uwX7 hown hK hP 0 rfl rfl 1 (by decide) (hts _ fl_X7_13) (fun _ h9 => h9) rfl dX7_out_26 ?_
            refine lv_iload_n hx hb dX7_out_29 rfl (lv_at hl 2 rfl) ?_
            obtain ⟨i7, hq⟩ := hq
            refine va_iald hx hb hK hP 1 0 rfl rfl i7 dX7_out_30 ?_
            refine lv_aload_n hx hb dX7_out_31 rfl (lv_at hl 0 rfl) ?_
            refine va_get (D := (dC, dI)) (ci := 7) (v := .ref (ad 1)) (C := RX7) (T := TX7) (N := 16) hx hb hts uwX7 hown hK hP 0 rfl rfl 1 (by decide) (hts _ fl_X7_13) (fun _ h9 => h9) rfl dX7_out_32 ?_
            refine lv_iload_n hx hb dX7_out_35 rfl (lv_at hl 3 rfl) ?_
            obtain ⟨i8, hq⟩ := hq
            refine va_iald hx hb hK hP 1 0 rfl rfl i8 dX7_out_36 ?_
            refine lv_icmp_le (tgt := 44) hx hb dX7_out_37 (by decide) (fun c9 => ?_) (fun c9 => ?_)
            · have hq := hq.1 c9
              refine lv_iconst (v := (0 : Int32)) hx hb dX7_out_44 (by decide) ?_
              exact B45 x1 (0 : Int32) x2 x3 _ hq (lv_sub hl [0, 2, 3] rfl)
            · have hq := hq.2 c9
              refine lv_iconst (v := (1 : Int32)) hx hb dX7_out_40 (by decide) ?_
              refine lv_goto (tgt := 45) hx hb dX7_out_41 (by decide) ?_
              exact B45 x1 (1 : Int32) x2 x3 _ hq (lv_sub hl [0, 2, 3] rfl)
      unfold q7_out_4 at hq
      refine lv_iload_n hx hb dX7_out_4 rfl (lv_at hl 2 rfl) ?_
      refine lv_aload_n hx hb dX7_out_5 rfl (lv_at hl 0 rfl) ?_
      refine va_get (D := (dC, dI)) (ci := 7) (v := .int m_n) (C := RX7) (T := TX7) (N := 16) hx hb hts uwX7 hown hK hP 0 rfl rfl 0 (by decide) (hts _ fl_X7_7) (fun _ h9 => h9) rfl dX7_out_6 ?_
      refine lv_icmp_ge (tgt := 59) hx hb dX7_out_9 (by decide) (fun c10 => ?_) (fun c10 => ?_)
      · have hq := hq.1 c10
        refine lv_iload_n hx hb dX7_out_59 rfl (lv_at hl 1 rfl) ?_
        exact W.iret (v := x1) hx hb hr (fun t ht hW => ⟨x1, rfl, hq, ht⟩) (fun q h => absurd h List.not_mem_nil) dX7_out_60
      · have hq := hq.2 c10
        refine lv_iload_n hx hb dX7_out_12 rfl (lv_at hl 2 rfl) ?_
        refine lv_iconst (v := (1 : Int32)) hx hb dX7_out_13 (by decide) ?_
        refine lv_iadd hx hb dX7_out_14 ?_
        refine lv_istore_n (lv' := [(3, .int (x2 + (1 : Int32))), (0, .ref (ad 0)), (1, .int x1), (2, .int x2)]) hx hb dX7_out_15 rfl hl (by decide) rfl (fun ls hl => ?_)
        obtain ⟨kf, hq⟩ := hq
        exact B16 kf x1 x2 (x2 + (1 : Int32)) _ hq (lv_sub hl [1, 2, 3, 0] rfl)
  unfold q7_out at hq
  refine lv_iconst (v := (0 : Int32)) hx hb dX7_out_0 (by decide) ?_
  refine lv_istore_n (lv' := [(1, .int (0 : Int32)), (0, .ref (ad 0))]) hx hb dX7_out_1 rfl hl (by decide) rfl (fun ls hl => ?_)
  refine lv_iconst (v := (0 : Int32)) hx hb dX7_out_2 (by decide) ?_
  refine lv_istore_n (lv' := [(2, .int (0 : Int32)), (1, .int (0 : Int32)), (0, .ref (ad 0))]) hx hb dX7_out_3 rfl hl (by decide) rfl (fun ls hl => ?_)
  obtain ⟨kf, hq⟩ := hq
  exact B4 kf (0 : Int32) (0 : Int32) _ hq (lv_sub hl [2, 1, 0] rfl)
set_option maxHeartbeats 4000000 in
set_option maxRecDepth 100000 in
theorem c7_numberOf (l : Launch) (dC : Nat → ClassId) (dI : Nat → Nat → Nat) (cs : Nat → ClassId) (ad : Nat → Nat) (sz : Nat) (m_n : Int32) (m_order : Nat → Int32) (m_shelf : Nat → Int32) (m_opens : Int32) (m_lists : Nat → Int32) (m_listed : Nat → Int32) (m_work : Nat → Int32) (m_counts : Nat → Int64) (m_older : Nat → Int64) (m_products : Nat → Int64) (m_part : Nat → Int32) (m_parts : Int32) (m_ways : Nat → Int64) (m_used : Int32) (m_greaterNow : Int32) (m_countNow : Int32) (a1 : Int32) {Q : Int32 → (Nat → Int32) → Prop} (hq : q7_numberOf m_n m_order m_work a1 Q) : Met l yX7_numberOf (.code yX7_numberOf cX7_numberOf 9 (some .int) :: gt) ({ frames := 1, cells := 0, slots := 0, locals := 29 } : Room) (va_Pc [.ref (ad 0), .int a1] (Pw (dC, dI) (KA cs) (wX7 cs ad m_n m_order m_shelf m_opens m_lists m_listed m_work m_counts m_older m_products m_part m_parts m_ways m_used m_greaterNow m_countNow) sz)) (va_Qi (fun (r : Int32) (u : (Nat → Int32)) => Q r u) (Bw (dC, dI) (KA cs) (va_A (wX7 cs ad m_n m_order m_shelf m_opens m_lists m_listed m_work m_counts m_older m_products m_part m_parts m_ways m_used m_greaterNow m_countNow) sz) (fun u : (Nat → Int32) => (wX7 cs ad m_n m_order m_shelf m_opens m_lists m_listed u m_counts m_older m_products m_part m_parts m_ways m_used m_greaterNow m_countNow))) (va_A (wX7 cs ad m_n m_order m_shelf m_opens m_lists m_listed m_work m_counts m_older m_products m_part m_parts m_ways m_used m_greaterNow m_countNow) sz)) 0 0 (va_A (wX7 cs ad m_n m_order m_shelf m_opens m_lists m_listed m_work m_counts m_older m_products m_part m_parts m_ways m_used m_greaterNow m_countNow) sz) := by
  refine Met.ofW (cc := cX7_numberOf) (maxL := 9) (ret := (some .int)) (by decide) rfl ?_
  intro p e s m args below meth c s₁ B hml hv
  obtain ⟨rfl, hsz, hP, hK, hD0, hN⟩ := hv
  have hx := B.exec
  have hb := B.bytes
  have hr := B.returns
  have hts0 := atoms_spec (ws := (.code yX7_numberOf cX7_numberOf 9 (some .int) :: gt)) B.pre
  have hts : ∀ w ∈ gt, w.before _ s = true := fun w h => hts0 w (List.mem_cons_of_mem _ h)
  have hown : s.vm.findClass RX7 = some m.cls := findClass_of_methodNamed B.named
  have hlocks := B.notSynchronized
  subst hsz
  have hD := hD0.self (sz := s.heap.size)
  generalize hAe : va_A (wX7 cs ad m_n m_order m_shelf m_opens m_lists m_listed m_work m_counts m_older m_products m_part m_parts m_ways m_used m_greaterNow m_countNow) s.heap.size = A at hD ⊢
  have hA : ∀ q : Nat, s.heap.size ≤ q → A q := fun q h => by rw [← hAe]; exact Or.inr h
  have hS : va_S A s.heap s.heap [] := va_S.rf
  have hl := lv_entry ([.ref (ad 0), .int a1]) (n := 9) (Nat.le_of_ble_eq_true rfl)
  rw [lg_entry_eq]
  generalize (lg_sl ([.ref (ad 0), .int a1]) ++ List.replicate (9 - (lg_sl ([.ref (ad 0), .int a1])).length) Slot.unset).toArray = ls at hl ⊢
  have hl : lv_has ls 9 [(0, .ref (ad 0)), (1, .int a1)] := hl
  have B165 : ∀ (x1 : Int32) (x2 : Int32) (x3 : Int32) (x4 : Int64) (m_work : Nat → Int32) (H : Heap) (locs : List Loc) (ls : Array Slot), q7_numberOf_165 m_n m_order Q x1 x2 x3 x4 m_work → va_P (dC, dI) vwCl (wX7 cs ad m_n m_order m_shelf m_opens m_lists m_listed m_work m_counts m_older m_products m_part m_parts m_ways m_used m_greaterNow m_countNow) H → va_D A (wX7 cs ad m_n m_order m_shelf m_opens m_lists m_listed m_work m_counts m_older m_products m_part m_parts m_ways m_used m_greaterNow m_countNow) → va_S A s.heap H locs → lv_has ls 9 [(0, .ref (ad 0)), (1, .int x1), (2, .int x2), (3, .int x3), (4, .long x4)] → W p l e ({ frames := 1, cells := 0, slots := 0, locals := 29 } : Room) s m ([.ref (ad 0), .int a1] : List Value).toArray below meth c H locs 0 0 (MQ below (va_Qi (fun (r : Int32) (u : (Nat → Int32)) => Q r u) (Bw (dC, dI) (KA cs) A (fun u : (Nat → Int32) => (wX7 cs ad m_n m_order m_shelf m_opens m_lists m_listed u m_counts m_older m_products m_part m_parts m_ways m_used m_greaterNow m_countNow))) A) ([.ref (ad 0), .int a1] : List Value).toArray s 0 0 A) (F0 m 165 ls []) := by
    intro x1 x2 x3 x4 m_work H locs ls hq hP hD hS hl
    unfold q7_numberOf_165 at hq
    refine lv_iload_n hx hb dX7_numberOf_165 rfl (lv_at hl 1 rfl) ?_
    refine lv_iconst (v := (4 : Int32)) hx hb dX7_numberOf_166 (by decide) ?_
    refine lv_icmp_ge (tgt := 174) hx hb dX7_numberOf_167 (by decide) (fun c26 => ?_) (fun c26 => ?_)
    · have hq := hq.1 c26
      refine lv_iload_n hx hb dX7_numberOf_174 rfl (lv_at hl 1 rfl) ?_
      refine lv_iconst (v := (4 : Int32)) hx hb dX7_numberOf_175 (by decide) ?_
      refine lv_icmp_ne (tgt := 183) hx hb dX7_numberOf_176 (by decide) (fun c27 => ?_) (fun c27 => ?_)
      · have hq := hq.1 c27
        refine lv_iload_n hx hb dX7_numberOf_183 rfl (lv_at hl 1 rfl) ?_
        refine lv_iconst (v := (5 : Int32)) hx hb dX7_numberOf_184 (by decide) ?_
        refine lv_icmp_ne (tgt := 195) hx hb dX7_numberOf_185 (by decide) (fun c28 => ?_) (fun c28 => ?_)
        · have hq := hq.1 c28
          refine lv_iload_n hx hb dX7_numberOf_195 rfl (lv_at hl 1 rfl) ?_
          refine lv_bipush (v := (6 : Int32)) hx hb dX7_numberOf_196 (by decide) ?_
          refine lv_icmp_ne (tgt := 208) hx hb dX7_numberOf_198 (by decide) (fun c29 => ?_) (fun c29 => ?_)
          · have hq := hq.1 c29
            refine lv_lload hx hb dX7_numberOf_208 (lv_at hl 4 rfl) ?_
            refine lv_l2i (v := x4.toInt32) hx hb dX7_numberOf_210 rfl ?_
            exact W.iret (v := x4.toInt32) hx hb hr (fun t ht hW => ⟨⟨x4.toInt32, m_work, rfl, hq, Bw_mk (by rw [ht]; exact hP) (va_K.moved hW.alike hK) hD⟩, hS.F ht⟩) hS.2.2 dX7_numberOf_211
          · have hq := hq.2 c29
            refine lv_aload_n hx hb dX7_numberOf_201 rfl (lv_at hl 0 rfl) ?_
            refine swi (runV ⟨hx, hb, hml, hown, hts⟩ wf_X7_longestRise ml_X7_84 (c7_longestRise l dC dI cs ad _ m_n m_order m_shelf m_opens m_lists m_listed m_work m_counts m_older m_products m_part m_parts m_ways m_used m_greaterNow m_countNow  hq) ⟨⟨rfl, rfl⟩, by decide, by decide⟩ (preW hP hK hN hD) hK hP rfl 0 rfl rfl hl.1 rfl (Nat.le_of_ble_eq_true rfl) dX7_numberOf_202 ⟨(Nat.le_of_ble_eq_true rfl), (Nat.le_of_ble_eq_true rfl)⟩) hD hS hA (fun r30 m_work_31 H locs hq hP hD hS => ?_)
            have hP : va_P (dC, dI) vwCl (wX7 cs ad m_n m_order m_shelf m_opens m_lists m_listed m_work_31 m_counts m_older m_products m_part m_parts m_ways m_used m_greaterNow m_countNow) H := hP
            have hD : va_D A (wX7 cs ad m_n m_order m_shelf m_opens m_lists m_listed m_work_31 m_counts m_older m_products m_part m_parts m_ways m_used m_greaterNow m_countNow) := hD
            refine lv_goto (tgt := 211) hx hb dX7_numberOf_205 (by decide) ?_
            exact W.iret (v := r30) hx hb hr (fun t ht hW => ⟨⟨r30, m_work_31, rfl, hq, Bw_mk (by rw [ht]; exact hP) (va_K.moved hW.alike hK) hD⟩, hS.F ht⟩) hS.2.2 dX7_numberOf_211
        · have hq := hq.2 c28
          refine lv_aload_n hx hb dX7_numberOf_188 rfl (lv_at hl 0 rfl) ?_
          refine roi (runV ⟨hx, hb, hml, hown, hts⟩ wf_X7_out ml_X7_80 (c7_out l dC dI cs ad m_n m_order m_shelf m_opens m_lists m_listed m_work m_counts m_older m_products m_part m_parts m_ways m_used m_greaterNow m_countNow  hq) ⟨⟨rfl, rfl⟩, by decide, by decide⟩ (preR hP hK hN) hK hP rfl 0 rfl rfl hl.1 rfl (Nat.le_of_ble_eq_true rfl) dX7_numberOf_189 ⟨(Nat.le_of_ble_eq_true rfl), (Nat.le_of_ble_eq_true rfl)⟩) (fun r33 hq => ?_)
          refine lv_goto (tgt := 211) hx hb dX7_numberOf_192 (by decide) ?_
          exact W.iret (v := r33) hx hb hr (fun t ht hW => ⟨⟨r33, m_work, rfl, hq, Bw_mk (by rw [ht]; exact hP) (va_K.moved hW.alike hK) hD⟩, hS.F ht⟩) hS.2.2 dX7_numberOf_211
      · have hq := hq.2 c27
        refine lv_iload_n hx hb dX7_numberOf_179 rfl (lv_at hl 3 rfl) ?_
        refine lv_goto (tgt := 211) hx hb dX7_numberOf_180 (by decide) ?_
        exact W.iret (v := x3) hx hb hr (fun t ht hW => ⟨⟨x3, m_work, rfl, hq, Bw_mk (by rw [ht]; exact hP) (va_K.moved hW.alike hK) hD⟩, hS.F ht⟩) hS.2.2 dX7_numberOf_211
    · have hq := hq.2 c26
      refine lv_iload_n hx hb dX7_numberOf_170 rfl (lv_at hl 2 rfl) ?_
      refine lv_goto (tgt := 211) hx hb dX7_numberOf_171 (by decide) ?_
      exact W.iret (v := x2) hx hb hr (fun t ht hW => ⟨⟨x2, m_work, rfl, hq, Bw_mk (by rw [ht]; exact hP) (va_K.moved hW.alike hK) hD⟩, hS.F ht⟩) hS.2.2 dX7_numberOf_211
  have B10 : ∀ (k10 : Nat) (x1 : Int32) (x2 : Int32) (x3 : Int32) (x4 : Int64) (x6 : Int32) (m_work : Nat → Int32) (H : Heap) (locs : List Loc) (ls : Array Slot), q7_numberOf_10 m_n m_order Q k10 x1 x2 x3 x4 x6 m_work → va_P (dC, dI) vwCl (wX7 cs ad m_n m_order m_shelf m_opens m_lists m_listed m_work m_counts m_older m_products m_part m_parts m_ways m_used m_greaterNow m_countNow) H → va_D A (wX7 cs ad m_n m_order m_shelf m_opens m_lists m_listed m_work m_counts m_older m_products m_part m_parts m_ways m_used m_greaterNow m_countNow) → va_S A s.heap H locs → lv_has ls 9 [(0, .ref (ad 0)), (1, .int x1), (2, .int x2), (3, .int x3), (4, .long x4), (6, .int x6)] → W p l e ({ frames := 1, cells := 0, slots := 0, locals := 29 } : Room) s m ([.ref (ad 0), .int a1] : List Value).toArray below meth c H locs 0 0 (MQ below (va_Qi (fun (r : Int32) (u : (Nat → Int32)) => Q r u) (Bw (dC, dI) (KA cs) A (fun u : (Nat → Int32) => (wX7 cs ad m_n m_order m_shelf m_opens m_lists m_listed u m_counts m_older m_products m_part m_parts m_ways m_used m_greaterNow m_countNow))) A) ([.ref (ad 0), .int a1] : List Value).toArray s 0 0 A) (F0 m 10 ls []) := by
    intro k10
    induction k10 with
    | zero => intro x1 x2 x3 x4 x6 m_work H locs ls hq; exact False.elim hq
    | succ k10 ih10 =>
      intro x1 x2 x3 x4 x6 m_work H locs ls hq hP hD hS hl
      have B157 : ∀ (s0 : Int32) (s1 : Int32) (x1 : Int32) (x3 : Int32) (x4 : Int64) (x6 : Int32) (m_work : Nat → Int32) (H : Heap) (locs : List Loc) (ls : Array Slot), q7_numberOf_157 m_n m_order (fun v0 v1 v2 v3 v4 v5 => q7_numberOf_10 m_n m_order Q k10 v0 v1 v2 v3 v4 v5) Q s0 s1 x1 x3 x4 x6 m_work → va_P (dC, dI) vwCl (wX7 cs ad m_n m_order m_shelf m_opens m_lists m_listed m_work m_counts m_older m_products m_part m_parts m_ways m_used m_greaterNow m_countNow) H → va_D A (wX7 cs ad m_n m_order m_shelf m_opens m_lists m_listed m_work m_counts m_older m_products m_part m_parts m_ways m_used m_greaterNow m_countNow) → va_S A s.heap H locs → lv_has ls 9 [(0, .ref (ad 0)), (1, .int x1), (3, .int x3), (4, .long x4), (6, .int x6)] → W p l e ({ frames := 1, cells := 0, slots := 0, locals := 29 } : Room) s m ([.ref (ad 0), .int a1] : List Value).toArray below meth c H locs 0 0 (MQ below (va_Qi (fun (r : Int32) (u : (Nat → Int32)) => Q r u) (Bw (dC, dI) (KA cs) A (fun u : (Nat → Int32) => (wX7 cs ad m_n m_order m_shelf m_opens m_lists m_listed u m_counts m_older m_products m_part m_parts m_ways m_used m_greaterNow m_countNow))) A) ([.ref (ad 0), .int a1] : List Value).toArray s 0 0 A) (F0 m 157 ls [.int s1, .int s0]) := by
        intro s0 s1 x1 x3 x4 x6 m_work H locs ls hq hP hD hS hl
        unfold q7_numberOf_157 at hq
        refine lv_iadd hx hb dX7_numberOf_157 ?_
        refine lv_istore_n (lv' := [(2, .int (s0 + s1)), (0, .ref (ad 0)), (1, .int x1), (3, .int x3), (4, .long x4), (6, .int x6)]) hx hb dX7_numberOf_158 rfl hl (by decide) rfl (fun ls hl => ?_)
        refine lv_iinc (v := (x6 + (1 : Int32))) (lv' := [(6, .int (x6 + (1 : Int32))), (2, .int (s0 + s1)), (0, .ref (ad 0)), (1, .int x1), (3, .int x3), (4, .long x4)]) hx hb dX7_numberOf_159 hl (k := 5) rfl (by rfl) (by decide) rfl (fun ls hl => ?_)
        refine lv_goto (tgt := 10) hx hb dX7_numberOf_162 (by decide) ?_
        exact ih10 x1 (s0 + s1) x3 x4 (x6 + (1 : Int32)) m_work _ _ _ hq hP hD hS (lv_sub hl [2, 3, 1, 4, 5, 0] rfl)
      have B144 : ∀ (s0 : Int32) (x1 : Int32) (x2 : Int32) (x3 : Int32) (x4 : Int64) (x6 : Int32) (m_work : Nat → Int32) (H : Heap) (locs : List Loc) (ls : Array Slot), q7_numberOf_144 m_n m_order (fun v0 v1 v2 v3 v4 v5 => q7_numberOf_10 m_n m_order Q k10 v0 v1 v2 v3 v4 v5) Q s0 x1 x2 x3 x4 x6 m_work → va_P (dC, dI) vwCl (wX7 cs ad m_n m_order m_shelf m_opens m_lists m_listed m_work m_counts m_older m_products m_part m_parts m_ways m_used m_greaterNow m_countNow) H → va_D A (wX7 cs ad m_n m_order m_shelf m_opens m_lists m_listed m_work m_counts m_older m_products m_part m_parts m_ways m_used m_greaterNow m_countNow) → va_S A s.heap H locs → lv_has ls 9 [(0, .ref (ad 0)), (1, .int x1), (2, .int x2), (3, .int x3), (4, .long x4), (6, .int x6)] → W p l e ({ frames := 1, cells := 0, slots := 0, locals := 29 } : Room) s m ([.ref (ad 0), .int a1] : List Value).toArray below meth c H locs 0 0 (MQ below (va_Qi (fun (r : Int32) (u : (Nat → Int32)) => Q r u) (Bw (dC, dI) (KA cs) A (fun u : (Nat → Int32) => (wX7 cs ad m_n m_order m_shelf m_opens m_lists m_listed u m_counts m_older m_products m_part m_parts m_ways m_used m_greaterNow m_countNow))) A) ([.ref (ad 0), .int a1] : List Value).toArray s 0 0 A) (F0 m 144 ls [.int s0]) := by
        intro s0 x1 x2 x3 x4 x6 m_work H locs ls hq hP hD hS hl
        unfold q7_numberOf_144 at hq
        refine lv_istore (lv' := [(8, .int s0), (0, .ref (ad 0)), (1, .int x1), (2, .int x2), (3, .int x3), (4, .long x4), (6, .int x6)]) hx hb dX7_numberOf_144 hl (by decide) rfl (fun ls hl => ?_)
        refine lv_iload_n hx hb dX7_numberOf_146 rfl (lv_at hl 3 rfl) ?_
        refine lv_iload hx hb dX7_numberOf_147 (lv_at hl 0 rfl) ?_
        refine lv_if_eq (tgt := 156) hx hb dX7_numberOf_149 (by decide) (fun c34 => ?_) (fun c34 => ?_)
        · have hq := hq.1 c34
          refine lv_iconst (v := (0 : Int32)) hx hb dX7_numberOf_156 (by decide) ?_
          exact B157 x2 (0 : Int32) x1 x3 x4 x6 m_work _ _ _ hq hP hD hS (lv_sub hl [1, 2, 4, 5, 6] rfl)
        · have hq := hq.2 c34
          refine lv_iconst (v := (1 : Int32)) hx hb dX7_numberOf_152 (by decide) ?_
          refine lv_goto (tgt := 157) hx hb dX7_numberOf_153 (by decide) ?_
          exact B157 x2 (1 : Int32) x1 x3 x4 x6 m_work _ _ _ hq hP hD hS (lv_sub hl [1, 2, 4, 5, 6] rfl)
      have B39 : ∀ (s0 : Int32) (x1 : Int32) (x2 : Int32) (x4 : Int64) (x6 : Int32) (x7 : Int32) (m_work : Nat → Int32) (H : Heap) (locs : List Loc) (ls : Array Slot), q7_numberOf_39 m_n m_order (fun v0 v1 v2 v3 v4 v5 => q7_numberOf_10 m_n m_order Q k10 v0 v1 v2 v3 v4 v5) Q s0 x1 x2 x4 x6 x7 m_work → va_P (dC, dI) vwCl (wX7 cs ad m_n m_order m_shelf m_opens m_lists m_listed m_work m_counts m_older m_products m_part m_parts m_ways m_used m_greaterNow m_countNow) H → va_D A (wX7 cs ad m_n m_order m_shelf m_opens m_lists m_listed m_work m_counts m_older m_products m_part m_parts m_ways m_used m_greaterNow m_countNow) → va_S A s.heap H locs → lv_has ls 9 [(0, .ref (ad 0)), (1, .int x1), (2, .int x2), (4, .long x4), (6, .int x6), (7, .int x7)] → W p l e ({ frames := 1, cells := 0, slots := 0, locals := 29 } : Room) s m ([.ref (ad 0), .int a1] : List Value).toArray below meth c H locs 0 0 (MQ below (va_Qi (fun (r : Int32) (u : (Nat → Int32)) => Q r u) (Bw (dC, dI) (KA cs) A (fun u : (Nat → Int32) => (wX7 cs ad m_n m_order m_shelf m_opens m_lists m_listed u m_counts m_older m_products m_part m_parts m_ways m_used m_greaterNow m_countNow))) A) ([.ref (ad 0), .int a1] : List Value).toArray s 0 0 A) (F0 m 39 ls [.int s0]) := by
        intro s0 x1 x2 x4 x6 x7 m_work H locs ls hq hP hD hS hl
        unfold q7_numberOf_39 at hq
        refine lv_istore_n (lv' := [(3, .int s0), (0, .ref (ad 0)), (1, .int x1), (2, .int x2), (4, .long x4), (6, .int x6), (7, .int x7)]) hx hb dX7_numberOf_39 rfl hl (by decide) rfl (fun ls hl => ?_)
        refine lv_lload hx hb dX7_numberOf_40 (lv_at hl 4 rfl) ?_
        refine lv_lload hx hb dX7_numberOf_42 (lv_at hl 4 rfl) ?_
        refine lv_iload hx hb dX7_numberOf_44 (lv_at hl 6 rfl) ?_
        refine lv_i2l (v := x7.toInt64) hx hb dX7_numberOf_46 rfl ?_
        refine rol (runS ⟨hx, hb, hml, hown, hts⟩ ws_X7_common ml_X7_70 (c7_common l dC dI cs   x4 x7.toInt64 hq) ⟨⟨rfl, rfl⟩, by decide, by decide⟩ (preR va_P_nil hK hN) hN rfl hl.1 rfl (Nat.le_of_ble_eq_true rfl) dX7_numberOf_47 ⟨(Nat.le_of_ble_eq_true rfl), (Nat.le_of_ble_eq_true rfl)⟩) (fun r35 hq => ?_)
        obtain ⟨z36, hq⟩ := hq
        refine lv_ldiv hx hb dX7_numberOf_50 z36 ?_
        refine lv_iload hx hb dX7_numberOf_51 (lv_at hl 6 rfl) ?_
        refine lv_i2l (v := x7.toInt64) hx hb dX7_numberOf_53 rfl ?_
        refine lv_lmul hx hb dX7_numberOf_54 ?_
        refine lv_lstore (lv' := [(4, .long ((x4 / r35) * x7.toInt64)), (3, .int s0), (0, .ref (ad 0)), (1, .int x1), (2, .int x2), (6, .int x6), (7, .int x7)]) hx hb dX7_numberOf_55 hl (by decide) rfl (fun ls hl => ?_)
        refine lv_iload_n hx hb dX7_numberOf_57 rfl (lv_at hl 3 rfl) ?_
        refine lv_if_ne (tgt := 70) hx hb dX7_numberOf_58 (by decide) (fun c37 => ?_) (fun c37 => ?_)
        · have hq := hq.1 c37
          refine lv_iload_n hx hb dX7_numberOf_70 rfl (lv_at hl 3 rfl) ?_
          refine lv_iconst (v := (1 : Int32)) hx hb dX7_numberOf_71 (by decide) ?_
          refine lv_icmp_ne (tgt := 84) hx hb dX7_numberOf_72 (by decide) (fun c38 => ?_) (fun c38 => ?_)
          · have hq := hq.1 c38
            refine lv_iload_n hx hb dX7_numberOf_84 rfl (lv_at hl 3 rfl) ?_
            refine lv_iconst (v := (2 : Int32)) hx hb dX7_numberOf_85 (by decide) ?_
            refine lv_icmp_ne (tgt := 127) hx hb dX7_numberOf_86 (by decide) (fun c39 => ?_) (fun c39 => ?_)
            · have hq := hq.1 c39
              refine lv_aload_n hx hb dX7_numberOf_127 rfl (lv_at hl 2 rfl) ?_
              refine va_get (D := (dC, dI)) (ci := 7) (v := .ref (ad 1)) (C := RX7) (T := TX7) (N := 16) hx hb hts uwX7 hown hK hP 0 rfl rfl 1 (by decide) (hts _ fl_X7_13) (fun _ h9 => h9) rfl dX7_numberOf_128 ?_
              refine lv_iload hx hb dX7_numberOf_131 (lv_at hl 5 rfl) ?_
              obtain ⟨i40, hq⟩ := hq
              refine va_iald hx hb hK hP 1 0 rfl rfl i40 dX7_numberOf_133 ?_
              refine lv_iload hx hb dX7_numberOf_134 (lv_at hl 5 rfl) ?_
              refine lv_icmp_ne (tgt := 143) hx hb dX7_numberOf_136 (by decide) (fun c41 => ?_) (fun c41 => ?_)
              · have hq := hq.1 c41
                refine lv_iconst (v := (0 : Int32)) hx hb dX7_numberOf_143 (by decide) ?_
                exact B144 (0 : Int32) x1 x2 s0 ((x4 / r35) * x7.toInt64) x6 m_work _ _ _ hq hP hD hS (lv_sub hl [2, 3, 4, 1, 0, 5] rfl)
              · have hq := hq.2 c41
                refine lv_iconst (v := (1 : Int32)) hx hb dX7_numberOf_139 (by decide) ?_
                refine lv_goto (tgt := 144) hx hb dX7_numberOf_140 (by decide) ?_
                exact B144 (1 : Int32) x1 x2 s0 ((x4 / r35) * x7.toInt64) x6 m_work _ _ _ hq hP hD hS (lv_sub hl [2, 3, 4, 1, 0, 5] rfl)
            · have hq := hq.2 c39
              refine lv_iload hx hb dX7_numberOf_89 (lv_at hl 5 rfl) ?_
              refine lv_aload_n hx hb dX7_numberOf_91 rfl (lv_at hl 2 rfl) ?_
              refine va_get (D := (dC, dI)) (ci := 7) (v := .int m_n) (C := RX7) (T := TX7) (N := 16) hx hb hts uwX7 hown hK hP 0 rfl rfl 0 (by decide) (hts _ fl_X7_7) (fun _ h9 => h9) rfl dX7_numberOf_92 ?_
              refine lv_iconst (v := (1 : Int32)) hx hb dX7_numberOf_95 (by decide) ?_
              refine lv_isub hx hb dX7_numberOf_96 ?_
              refine lv_icmp_ge (tgt := 123) hx hb dX7_numberOf_97 (by decide) (fun c42 => ?_) (fun c42 => ?_)
              · have hq := hq.1 c42
                refine lv_iconst (v := (0 : Int32)) hx hb dX7_numberOf_123 (by decide) ?_
                refine lv_goto (tgt := 144) hx hb dX7_numberOf_124 (by decide) ?_
                exact B144 (0 : Int32) x1 x2 s0 ((x4 / r35) * x7.toInt64) x6 m_work _ _ _ hq hP hD hS (lv_sub hl [2, 3, 4, 1, 0, 5] rfl)
              · have hq := hq.2 c42
                refine lv_aload_n hx hb dX7_numberOf_100 rfl (lv_at hl 2 rfl) ?_
                refine va_get (D := (dC, dI)) (ci := 7) (v := .ref (ad 1)) (C := RX7) (T := TX7) (N := 16) hx hb hts uwX7 hown hK hP 0 rfl rfl 1 (by decide) (hts _ fl_X7_13) (fun _ h9 => h9) rfl dX7_numberOf_101 ?_
                refine lv_iload hx hb dX7_numberOf_104 (lv_at hl 5 rfl) ?_
                obtain ⟨i43, hq⟩ := hq
                refine va_iald hx hb hK hP 1 0 rfl rfl i43 dX7_numberOf_106 ?_
                refine lv_aload_n hx hb dX7_numberOf_107 rfl (lv_at hl 2 rfl) ?_
                refine va_get (D := (dC, dI)) (ci := 7) (v := .ref (ad 1)) (C := RX7) (T := TX7) (N := 16) hx hb hts uwX7 hown hK hP 0 rfl rfl 1 (by decide) (hts _ fl_X7_13) (fun _ h9 => h9) rfl dX7_numberOf_108 ?_
                refine lv_iload hx hb dX7_numberOf_111 (lv_at hl 5 rfl) ?_
                refine lv_iconst (v := (1 : Int32)) hx hb dX7_numberOf_113 (by decide) ?_
                refine lv_iadd hx hb dX7_numberOf_114 ?_
                obtain ⟨i44, hq⟩ := hq
                refine va_iald hx hb hK hP 1 0 rfl rfl i44 dX7_numberOf_115 ?_
                refine lv_icmp_ge (tgt := 123) hx hb dX7_numberOf_116 (by decide) (fun c45 => ?_) (fun c45 => ?_)
                · have hq := hq.1 c45
                  refine lv_iconst (v := (0 : Int32)) hx hb dX7_numberOf_123 (by decide) ?_
                  refine lv_goto (tgt := 144) hx hb dX7_numberOf_124 (by decide) ?_
                  exact B144 (0 : Int32) x1 x2 s0 ((x4 / r35) * x7.toInt64) x6 m_work _ _ _ hq hP hD hS (lv_sub hl [2, 3, 4, 1, 0, 5] rfl)
                · have hq := hq.2 c45
                  refine lv_iconst (v := (1 : Int32)) hx hb dX7_numberOf_119 (by decide) ?_
                  refine lv_goto (tgt := 144) hx hb dX7_numberOf_120 (by decide) ?_
                  exact B144 (1 : Int32) x1 x2 s0 ((x4 / r35) * x7.toInt64) x6 m_work _ _ _ hq hP hD hS (lv_sub hl [2, 3, 4, 1, 0, 5] rfl)
          · have hq := hq.2 c38
            refine lv_aload_n hx hb dX7_numberOf_75 rfl (lv_at hl 2 rfl) ?_
            refine lv_iload hx hb dX7_numberOf_76 (lv_at hl 5 rfl) ?_
            refine roi (runV ⟨hx, hb, hml, hown, hts⟩ wf_X7_isRecord ml_X7_77 (c7_isRecord l dC dI cs ad m_n m_order m_shelf m_opens m_lists m_listed m_work m_counts m_older m_products m_part m_parts m_ways m_used m_greaterNow m_countNow x6 hq) ⟨⟨rfl, rfl⟩, by decide, by decide⟩ (preR hP hK hN) hK hP rfl 0 rfl rfl hl.1 rfl (Nat.le_of_ble_eq_true rfl) dX7_numberOf_78 ⟨(Nat.le_of_ble_eq_true rfl), (Nat.le_of_ble_eq_true rfl)⟩) (fun r46 hq => ?_)
            refine lv_goto (tgt := 144) hx hb dX7_numberOf_81 (by decide) ?_
            exact B144 r46 x1 x2 s0 ((x4 / r35) * x7.toInt64) x6 m_work _ _ _ hq hP hD hS (lv_sub hl [2, 3, 4, 1, 0, 5] rfl)
        · have hq := hq.2 c37
          refine lv_aload_n hx hb dX7_numberOf_61 rfl (lv_at hl 2 rfl) ?_
          refine lv_iload hx hb dX7_numberOf_62 (lv_at hl 5 rfl) ?_
          refine roi (runV ⟨hx, hb, hml, hown, hts⟩ wf_X7_isFirst ml_X7_74 (c7_isFirst l dC dI cs ad m_n m_order m_shelf m_opens m_lists m_listed m_work m_counts m_older m_products m_part m_parts m_ways m_used m_greaterNow m_countNow x6 hq) ⟨⟨rfl, rfl⟩, by decide, by decide⟩ (preR hP hK hN) hK hP rfl 0 rfl rfl hl.1 rfl (Nat.le_of_ble_eq_true rfl) dX7_numberOf_64 ⟨(Nat.le_of_ble_eq_true rfl), (Nat.le_of_ble_eq_true rfl)⟩) (fun r47 hq => ?_)
          refine lv_goto (tgt := 144) hx hb dX7_numberOf_67 (by decide) ?_
          exact B144 r47 x1 x2 s0 ((x4 / r35) * x7.toInt64) x6 m_work _ _ _ hq hP hD hS (lv_sub hl [2, 3, 4, 1, 0, 5] rfl)
      unfold q7_numberOf_10 at hq
      refine lv_iload hx hb dX7_numberOf_10 (lv_at hl 5 rfl) ?_
      refine lv_aload_n hx hb dX7_numberOf_12 rfl (lv_at hl 0 rfl) ?_
      refine va_get (D := (dC, dI)) (ci := 7) (v := .int m_n) (C := RX7) (T := TX7) (N := 16) hx hb hts uwX7 hown hK hP 0 rfl rfl 0 (by decide) (hts _ fl_X7_7) (fun _ h9 => h9) rfl dX7_numberOf_13 ?_
      refine lv_icmp_ge (tgt := 165) hx hb dX7_numberOf_16 (by decide) (fun c48 => ?_) (fun c48 => ?_)
      · have hq := hq.1 c48
        exact B165 x1 x2 x3 x4 m_work _ _ _ hq hP hD hS (lv_sub hl [0, 1, 2, 3, 4] rfl)
      · have hq := hq.2 c48
        refine lv_aload_n hx hb dX7_numberOf_19 rfl (lv_at hl 0 rfl) ?_
        refine lv_iload hx hb dX7_numberOf_20 (lv_at hl 5 rfl) ?_
        refine roi (runV ⟨hx, hb, hml, hown, hts⟩ wf_X7_roundOf ml_X7_66 (c7_roundOf l dC dI cs ad m_n m_order m_shelf m_opens m_lists m_listed m_work m_counts m_older m_products m_part m_parts m_ways m_used m_greaterNow m_countNow x6 hq) ⟨⟨rfl, rfl⟩, by decide, by decide⟩ (preR hP hK hN) hK hP rfl 0 rfl rfl hl.1 rfl (Nat.le_of_ble_eq_true rfl) dX7_numberOf_22 ⟨(Nat.le_of_ble_eq_true rfl), (Nat.le_of_ble_eq_true rfl)⟩) (fun r49 hq => ?_)
        refine lv_istore (lv' := [(7, .int r49), (0, .ref (ad 0)), (1, .int x1), (2, .int x2), (3, .int x3), (4, .long x4), (6, .int x6)]) hx hb dX7_numberOf_25 hl (by decide) rfl (fun ls hl => ?_)
        refine lv_iload hx hb dX7_numberOf_27 (lv_at hl 0 rfl) ?_
        refine lv_iload_n hx hb dX7_numberOf_29 rfl (lv_at hl 4 rfl) ?_
        refine lv_icmp_le (tgt := 38) hx hb dX7_numberOf_30 (by decide) (fun c50 => ?_) (fun c50 => ?_)
        · have hq := hq.1 c50
          refine lv_iload_n hx hb dX7_numberOf_38 rfl (lv_at hl 4 rfl) ?_
          exact B39 x3 x1 x2 x4 x6 r49 m_work _ _ _ hq hP hD hS (lv_sub hl [1, 2, 3, 5, 6, 0] rfl)
        · have hq := hq.2 c50
          refine lv_iload hx hb dX7_numberOf_33 (lv_at hl 0 rfl) ?_
          refine lv_goto (tgt := 39) hx hb dX7_numberOf_35 (by decide) ?_
          exact B39 r49 x1 x2 x4 x6 r49 m_work _ _ _ hq hP hD hS (lv_sub hl [1, 2, 3, 5, 6, 0] rfl)
  unfold q7_numberOf at hq
  refine lv_iconst (v := (0 : Int32)) hx hb dX7_numberOf_0 (by decide) ?_
  refine lv_istore_n (lv' := [(2, .int (0 : Int32)), (0, .ref (ad 0)), (1, .int a1)]) hx hb dX7_numberOf_1 rfl hl (by decide) rfl (fun ls hl => ?_)
  refine lv_iconst (v := (0 : Int32)) hx hb dX7_numberOf_2 (by decide) ?_
  refine lv_istore_n (lv' := [(3, .int (0 : Int32)), (2, .int (0 : Int32)), (0, .ref (ad 0)), (1, .int a1)]) hx hb dX7_numberOf_3 rfl hl (by decide) rfl (fun ls hl => ?_)
  refine lv_lconst (v := (1 : Int64)) hx hb dX7_numberOf_4 (by decide) ?_
  refine lv_lstore (lv' := [(4, .long (1 : Int64)), (3, .int (0 : Int32)), (2, .int (0 : Int32)), (0, .ref (ad 0)), (1, .int a1)]) hx hb dX7_numberOf_5 hl (by decide) rfl (fun ls hl => ?_)
  refine lv_iconst (v := (0 : Int32)) hx hb dX7_numberOf_7 (by decide) ?_
  refine lv_istore (lv' := [(6, .int (0 : Int32)), (4, .long (1 : Int64)), (3, .int (0 : Int32)), (2, .int (0 : Int32)), (0, .ref (ad 0)), (1, .int a1)]) hx hb dX7_numberOf_8 hl (by decide) rfl (fun ls hl => ?_)
  obtain ⟨kf, hq⟩ := hq
  exact B10 kf a1 (0 : Int32) (0 : Int32) (1 : Int64) (0 : Int32) m_work _ _ _ hq hP hD hS (lv_sub hl [4, 5, 3, 2, 1, 0] rfl)
set_option maxHeartbeats 4000000 in
set_option maxRecDepth 100000 in
theorem c7_number (l : Launch) (dC : Nat → ClassId) (dI : Nat → Nat → Nat) (cs : Nat → ClassId) (ad : Nat → Nat) (sz : Nat) (m_n : Int32) (m_order : Nat → Int32) (m_shelf : Nat → Int32) (m_opens : Int32) (m_lists : Nat → Int32) (m_listed : Nat → Int32) (m_work : Nat → Int32) (m_counts : Nat → Int64) (m_older : Nat → Int64) (m_products : Nat → Int64) (m_part : Nat → Int32) (m_parts : Int32) (m_ways : Nat → Int64) (m_used : Int32) (m_greaterNow : Int32) (m_countNow : Int32) (a1 : Int32) {Q : Int32 → (Nat → Int32) → Prop} (hq : q7_number m_n m_order m_work a1 Q) : Met l yX7_number (.code yX7_number cX7_number 2 (some .int) :: gt) ({ frames := 2, cells := 0, slots := 0, locals := 57 } : Room) (va_Pc [.ref (ad 0), .int a1] (Pw (dC, dI) (KA cs) (wX7 cs ad m_n m_order m_shelf m_opens m_lists m_listed m_work m_counts m_older m_products m_part m_parts m_ways m_used m_greaterNow m_countNow) sz)) (va_Qi (fun (r : Int32) (u : (Nat → Int32)) => Q r u) (Bw (dC, dI) (KA cs) (va_A (wX7 cs ad m_n m_order m_shelf m_opens m_lists m_listed m_work m_counts m_older m_products m_part m_parts m_ways m_used m_greaterNow m_countNow) sz) (fun u : (Nat → Int32) => (wX7 cs ad m_n m_order m_shelf m_opens m_lists m_listed u m_counts m_older m_products m_part m_parts m_ways m_used m_greaterNow m_countNow))) (va_A (wX7 cs ad m_n m_order m_shelf m_opens m_lists m_listed m_work m_counts m_older m_products m_part m_parts m_ways m_used m_greaterNow m_countNow) sz)) 0 0 (va_A (wX7 cs ad m_n m_order m_shelf m_opens m_lists m_listed m_work m_counts m_older m_products m_part m_parts m_ways m_used m_greaterNow m_countNow) sz) := by
  refine Met.ofW (cc := cX7_number) (maxL := 2) (ret := (some .int)) (by decide) rfl ?_
  intro p e s m args below meth c s₁ B hml hv
  obtain ⟨rfl, hsz, hP, hK, hD0, hN⟩ := hv
  have hx := B.exec
  have hb := B.bytes
  have hr := B.returns
  have hts0 := atoms_spec (ws := (.code yX7_number cX7_number 2 (some .int) :: gt)) B.pre
  have hts : ∀ w ∈ gt, w.before _ s = true := fun w h => hts0 w (List.mem_cons_of_mem _ h)
  have hown : s.vm.findClass RX7 = some m.cls := findClass_of_methodNamed B.named
  have hlocks := B.notSynchronized
  subst hsz
  have hD := hD0.self (sz := s.heap.size)
  generalize hAe : va_A (wX7 cs ad m_n m_order m_shelf m_opens m_lists m_listed m_work m_counts m_older m_products m_part m_parts m_ways m_used m_greaterNow m_countNow) s.heap.size = A at hD ⊢
  have hA : ∀ q : Nat, s.heap.size ≤ q → A q := fun q h => by rw [← hAe]; exact Or.inr h
  have hS : va_S A s.heap s.heap [] := va_S.rf
  have hl := lv_entry ([.ref (ad 0), .int a1]) (n := 2) (Nat.le_of_ble_eq_true rfl)
  rw [lg_entry_eq]
  generalize (lg_sl ([.ref (ad 0), .int a1]) ++ List.replicate (2 - (lg_sl ([.ref (ad 0), .int a1])).length) Slot.unset).toArray = ls at hl ⊢
  have hl : lv_has ls 2 [(0, .ref (ad 0)), (1, .int a1)] := hl
  unfold q7_number at hq
  refine lv_iload_n hx hb dX7_number_0 rfl (lv_at hl 1 rfl) ?_
  refine lv_i2l (v := a1.toInt64) hx hb dX7_number_1 rfl ?_
  refine lv_lconst (v := (0 : Int64)) hx hb dX7_number_2 (by decide) ?_
  refine lv_ldc2 (v := (7 : Int64)) hx hb hown (hts _ kl_X7_87) dX7_number_3 ?_
  refine roi (runS ⟨hx, hb, hml, hown, hts⟩ ws_X7_in ml_X7_51 (c7_in l dC dI cs   a1.toInt64 (0 : Int64) (7 : Int64) hq) ⟨⟨rfl, rfl⟩, by decide, by decide⟩ (preR va_P_nil hK hN) hN rfl hl.1 rfl (Nat.le_of_ble_eq_true rfl) dX7_number_6 ⟨(Nat.le_of_ble_eq_true rfl), (Nat.le_of_ble_eq_true rfl)⟩) (fun r6 hq => ?_)
  refine lv_if_eq (tgt := 20) hx hb dX7_number_9 (by decide) (fun c7 => ?_) (fun c7 => ?_)
  · have hq := hq.1 c7
    refine lv_bipush (v := (-2 : Int32)) hx hb dX7_number_20 (by decide) ?_
    exact W.iret (v := (-2 : Int32)) hx hb hr (fun t ht hW => ⟨⟨(-2 : Int32), m_work, rfl, hq, Bw_mk (by rw [ht]; exact hP) (va_K.moved hW.alike hK) hD⟩, hS.F ht⟩) hS.2.2 dX7_number_22
  · have hq := hq.2 c7
    refine lv_aload_n hx hb dX7_number_12 rfl (lv_at hl 0 rfl) ?_
    refine lv_iload_n hx hb dX7_number_13 rfl (lv_at hl 1 rfl) ?_
    refine swi (runV ⟨hx, hb, hml, hown, hts⟩ wf_X7_numberOf ml_X7_89 (c7_numberOf l dC dI cs ad _ m_n m_order m_shelf m_opens m_lists m_listed m_work m_counts m_older m_products m_part m_parts m_ways m_used m_greaterNow m_countNow a1 hq) ⟨⟨rfl, rfl⟩, by decide, by decide⟩ (preW hP hK hN hD) hK hP rfl 0 rfl rfl hl.1 rfl (Nat.le_of_ble_eq_true rfl) dX7_number_14 ⟨(Nat.le_of_ble_eq_true rfl), (Nat.le_of_ble_eq_true rfl)⟩) hD hS hA (fun r8 m_work_9 H locs hq hP hD hS => ?_)
    have hP : va_P (dC, dI) vwCl (wX7 cs ad m_n m_order m_shelf m_opens m_lists m_listed m_work_9 m_counts m_older m_products m_part m_parts m_ways m_used m_greaterNow m_countNow) H := hP
    have hD : va_D A (wX7 cs ad m_n m_order m_shelf m_opens m_lists m_listed m_work_9 m_counts m_older m_products m_part m_parts m_ways m_used m_greaterNow m_countNow) := hD
    refine lv_goto (tgt := 22) hx hb dX7_number_17 (by decide) ?_
    exact W.iret (v := r8) hx hb hr (fun t ht hW => ⟨⟨r8, m_work_9, rfl, hq, Bw_mk (by rw [ht]; exact hP) (va_K.moved hW.alike hK) hD⟩, hS.F ht⟩) hS.2.2 dX7_number_22
set_option maxHeartbeats 4000000 in
set_option maxRecDepth 100000 in
theorem c7_layProducts (l : Launch) (dC : Nat → ClassId) (dI : Nat → Nat → Nat) (cs : Nat → ClassId) (ad : Nat → Nat) (sz : Nat) (m_n : Int32) (m_order : Nat → Int32) (m_shelf : Nat → Int32) (m_opens : Int32) (m_lists : Nat → Int32) (m_listed : Nat → Int32) (m_work : Nat → Int32) (m_counts : Nat → Int64) (m_older : Nat → Int64) (m_products : Nat → Int64) (m_part : Nat → Int32) (m_parts : Int32) (m_ways : Nat → Int64) (m_used : Int32) (m_greaterNow : Int32) (m_countNow : Int32) {Q : (Nat → Int64) → Prop} (hq : q7_layProducts m_products Q) : Met l yX7_layProducts (.code yX7_layProducts cX7_layProducts 2 none :: gt) ({ frames := 0, cells := 0, slots := 0, locals := 0 } : Room) (va_Pc [.ref (ad 0)] (Pw (dC, dI) (KA cs) (wX7 cs ad m_n m_order m_shelf m_opens m_lists m_listed m_work m_counts m_older m_products m_part m_parts m_ways m_used m_greaterNow m_countNow) sz)) (va_Qv (fun (u : (Nat → Int64)) => Q u) (Bw (dC, dI) (KA cs) (va_A (wX7 cs ad m_n m_order m_shelf m_opens m_lists m_listed m_work m_counts m_older m_products m_part m_parts m_ways m_used m_greaterNow m_countNow) sz) (fun u : (Nat → Int64) => (wX7 cs ad m_n m_order m_shelf m_opens m_lists m_listed m_work m_counts m_older u m_part m_parts m_ways m_used m_greaterNow m_countNow))) (va_A (wX7 cs ad m_n m_order m_shelf m_opens m_lists m_listed m_work m_counts m_older m_products m_part m_parts m_ways m_used m_greaterNow m_countNow) sz)) 0 0 (va_A (wX7 cs ad m_n m_order m_shelf m_opens m_lists m_listed m_work m_counts m_older m_products m_part m_parts m_ways m_used m_greaterNow m_countNow) sz) := by
  refine Met.ofW (cc := cX7_layProducts) (maxL := 2) (ret := none) (by decide) rfl ?_
  intro p e s m args below meth c s₁ B hml hv
  obtain ⟨rfl, hsz, hP, hK, hD0, hN⟩ := hv
  have hx := B.exec
  have hb := B.bytes
  have hr := B.returns
  have hts0 := atoms_spec (ws := (.code yX7_layProducts cX7_layProducts 2 none :: gt)) B.pre
  have hts : ∀ w ∈ gt, w.before _ s = true := fun w h => hts0 w (List.mem_cons_of_mem _ h)
  have hown : s.vm.findClass RX7 = some m.cls := findClass_of_methodNamed B.named
  have hlocks := B.notSynchronized
  subst hsz
  have hD := hD0.self (sz := s.heap.size)
  generalize hAe : va_A (wX7 cs ad m_n m_order m_shelf m_opens m_lists m_listed m_work m_counts m_older m_products m_part m_parts m_ways m_used m_greaterNow m_countNow) s.heap.size = A at hD ⊢
  have hA : ∀ q : Nat, s.heap.size ≤ q → A q := fun q h => by rw [← hAe]; exact Or.inr h
  have hS : va_S A s.heap s.heap [] := va_S.rf
  have hl := lv_entry ([.ref (ad 0)]) (n := 2) (Nat.le_of_ble_eq_true rfl)
  rw [lg_entry_eq]
  generalize (lg_sl ([.ref (ad 0)]) ++ List.replicate (2 - (lg_sl ([.ref (ad 0)])).length) Slot.unset).toArray = ls at hl ⊢
  have hl : lv_has ls 2 [(0, .ref (ad 0))] := hl
  have B9 : ∀ (k9 : Nat) (x1 : Int32) (m_products : Nat → Int64) (H : Heap) (locs : List Loc) (ls : Array Slot), q7_layProducts_9 Q k9 x1 m_products → va_P (dC, dI) vwCl (wX7 cs ad m_n m_order m_shelf m_opens m_lists m_listed m_work m_counts m_older m_products m_part m_parts m_ways m_used m_greaterNow m_countNow) H → va_D A (wX7 cs ad m_n m_order m_shelf m_opens m_lists m_listed m_work m_counts m_older m_products m_part m_parts m_ways m_used m_greaterNow m_countNow) → va_S A s.heap H locs → lv_has ls 2 [(0, .ref (ad 0)), (1, .int x1)] → W p l e ({ frames := 0, cells := 0, slots := 0, locals := 0 } : Room) s m ([.ref (ad 0)] : List Value).toArray below meth c H locs 0 0 (MQ below (va_Qv (fun (u : (Nat → Int64)) => Q u) (Bw (dC, dI) (KA cs) A (fun u : (Nat → Int64) => (wX7 cs ad m_n m_order m_shelf m_opens m_lists m_listed m_work m_counts m_older u m_part m_parts m_ways m_used m_greaterNow m_countNow))) A) ([.ref (ad 0)] : List Value).toArray s 0 0 A) (F0 m 9 ls []) := by
    intro k9
    induction k9 with
    | zero => intro x1 m_products H locs ls hq; exact False.elim hq
    | succ k9 ih9 =>
      intro x1 m_products H locs ls hq hP hD hS hl
      unfold q7_layProducts_9 at hq
      refine lv_iload_n hx hb dX7_layProducts_9 rfl (lv_at hl 1 rfl) ?_
      refine lv_bipush (v := (18 : Int32)) hx hb dX7_layProducts_10 (by decide) ?_
      refine lv_icmp_gt (tgt := 38) hx hb dX7_layProducts_12 (by decide) (fun c5 => ?_) (fun c5 => ?_)
      · have hq := hq.1 c5
        exact W.vret hx hb hr (fun t ht hW => ⟨⟨m_products, rfl, hq, Bw_mk (by rw [ht]; exact hP) (va_K.moved hW.alike hK) hD⟩, hS.F ht⟩) hS.2.2 dX7_layProducts_38
      · have hq := hq.2 c5
        refine lv_aload_n hx hb dX7_layProducts_15 rfl (lv_at hl 0 rfl) ?_
        refine va_get (D := (dC, dI)) (ci := 7) (v := .ref (ad 8)) (C := RX7) (T := TX7) (N := 16) hx hb hts uwX7 hown hK hP 0 rfl rfl 9 (by decide) (hts _ fl_X7_39) (fun _ h9 => h9) rfl dX7_layProducts_16 ?_
        refine lv_iload_n hx hb dX7_layProducts_19 rfl (lv_at hl 1 rfl) ?_
        refine lv_aload_n hx hb dX7_layProducts_20 rfl (lv_at hl 0 rfl) ?_
        refine va_get (D := (dC, dI)) (ci := 7) (v := .ref (ad 8)) (C := RX7) (T := TX7) (N := 16) hx hb hts uwX7 hown hK hP 0 rfl rfl 9 (by decide) (hts _ fl_X7_39) (fun _ h9 => h9) rfl dX7_layProducts_21 ?_
        refine lv_iload_n hx hb dX7_layProducts_24 rfl (lv_at hl 1 rfl) ?_
        refine lv_iconst (v := (1 : Int32)) hx hb dX7_layProducts_25 (by decide) ?_
        refine lv_isub hx hb dX7_layProducts_26 ?_
        obtain ⟨i6, hq⟩ := hq
        refine va_lald hx hb hK hP 8 1 rfl rfl i6 dX7_layProducts_27 ?_
        refine lv_iload_n hx hb dX7_layProducts_28 rfl (lv_at hl 1 rfl) ?_
        refine lv_i2l (v := x1.toInt64) hx hb dX7_layProducts_29 rfl ?_
        refine lv_lmul hx hb dX7_layProducts_30 ?_
        obtain ⟨i7, hq⟩ := hq
        refine va_last hx hb hK hP hD hS 8 1 rfl rfl i7 dX7_layProducts_31 (fun H locs hP hD hS => ?_)
        have hP : va_P (dC, dI) vwCl (wX7 cs ad m_n m_order m_shelf m_opens m_lists m_listed m_work m_counts m_older (vp_updL m_products x1.toNatClampNeg ((m_products (x1 - (1 : Int32)).toNatClampNeg) * x1.toInt64)) m_part m_parts m_ways m_used m_greaterNow m_countNow) H := hP
        have hD : va_D A (wX7 cs ad m_n m_order m_shelf m_opens m_lists m_listed m_work m_counts m_older (vp_updL m_products x1.toNatClampNeg ((m_products (x1 - (1 : Int32)).toNatClampNeg) * x1.toInt64)) m_part m_parts m_ways m_used m_greaterNow m_countNow) := hD
        refine lv_iinc (v := (x1 + (1 : Int32))) (lv' := [(1, .int (x1 + (1 : Int32))), (0, .ref (ad 0))]) hx hb dX7_layProducts_32 hl (k := 1) rfl (by rfl) (by decide) rfl (fun ls hl => ?_)
        refine lv_goto (tgt := 9) hx hb dX7_layProducts_35 (by decide) ?_
        exact ih9 (x1 + (1 : Int32)) (vp_updL m_products x1.toNatClampNeg ((m_products (x1 - (1 : Int32)).toNatClampNeg) * x1.toInt64)) _ _ _ hq hP hD hS (lv_sub hl [1, 0] rfl)
  unfold q7_layProducts at hq
  refine lv_aload_n hx hb dX7_layProducts_0 rfl (lv_at hl 0 rfl) ?_
  refine va_get (D := (dC, dI)) (ci := 7) (v := .ref (ad 8)) (C := RX7) (T := TX7) (N := 16) hx hb hts uwX7 hown hK hP 0 rfl rfl 9 (by decide) (hts _ fl_X7_39) (fun _ h9 => h9) rfl dX7_layProducts_1 ?_
  refine lv_iconst (v := (0 : Int32)) hx hb dX7_layProducts_4 (by decide) ?_
  refine lv_lconst (v := (1 : Int64)) hx hb dX7_layProducts_5 (by decide) ?_
  obtain ⟨i8, hq⟩ := hq
  refine va_last hx hb hK hP hD hS 8 1 rfl rfl i8 dX7_layProducts_6 (fun H locs hP hD hS => ?_)
  have hP : va_P (dC, dI) vwCl (wX7 cs ad m_n m_order m_shelf m_opens m_lists m_listed m_work m_counts m_older (vp_updL m_products (0 : Int32).toNatClampNeg (1 : Int64)) m_part m_parts m_ways m_used m_greaterNow m_countNow) H := hP
  have hD : va_D A (wX7 cs ad m_n m_order m_shelf m_opens m_lists m_listed m_work m_counts m_older (vp_updL m_products (0 : Int32).toNatClampNeg (1 : Int64)) m_part m_parts m_ways m_used m_greaterNow m_countNow) := hD
  refine lv_iconst (v := (1 : Int32)) hx hb dX7_layProducts_7 (by decide) ?_
  refine lv_istore_n (lv' := [(1, .int (1 : Int32)), (0, .ref (ad 0))]) hx hb dX7_layProducts_8 rfl hl (by decide) rfl (fun ls hl => ?_)
  obtain ⟨kf, hq⟩ := hq
  exact B9 kf (1 : Int32) (vp_updL m_products (0 : Int32).toNatClampNeg (1 : Int64)) _ _ _ hq hP hD hS (lv_sub hl [1, 0] rfl)
set_option maxHeartbeats 4000000 in
set_option maxRecDepth 100000 in
theorem c7_step (l : Launch) (dC : Nat → ClassId) (dI : Nat → Nat → Nat) (cs : Nat → ClassId) (ad : Nat → Nat) (sz : Nat) (m_n : Int32) (m_order : Nat → Int32) (m_shelf : Nat → Int32) (m_opens : Int32) (m_lists : Nat → Int32) (m_listed : Nat → Int32) (m_work : Nat → Int32) (m_counts : Nat → Int64) (m_older : Nat → Int64) (m_products : Nat → Int64) (m_part : Nat → Int32) (m_parts : Int32) (m_ways : Nat → Int64) (m_used : Int32) (m_greaterNow : Int32) (m_countNow : Int32) {Q : (Nat → Int64) → (Nat → Int64) → Prop} (hq : q7_step m_counts m_older Q) : Met l yX7_step (.code yX7_step cX7_step 2 none :: gt) ({ frames := 0, cells := 0, slots := 0, locals := 0 } : Room) (va_Pc [.ref (ad 0)] (Pw (dC, dI) (KA cs) (wX7 cs ad m_n m_order m_shelf m_opens m_lists m_listed m_work m_counts m_older m_products m_part m_parts m_ways m_used m_greaterNow m_countNow) sz)) (va_Qv (fun (u : (Nat → Int64) × (Nat → Int64)) => Q u.1 u.2) (Bw (dC, dI) (KA cs) (va_A (wX7 cs ad m_n m_order m_shelf m_opens m_lists m_listed m_work m_counts m_older m_products m_part m_parts m_ways m_used m_greaterNow m_countNow) sz) (fun u : (Nat → Int64) × (Nat → Int64) => (wX7 cs ad m_n m_order m_shelf m_opens m_lists m_listed m_work u.1 u.2 m_products m_part m_parts m_ways m_used m_greaterNow m_countNow))) (va_A (wX7 cs ad m_n m_order m_shelf m_opens m_lists m_listed m_work m_counts m_older m_products m_part m_parts m_ways m_used m_greaterNow m_countNow) sz)) 0 0 (va_A (wX7 cs ad m_n m_order m_shelf m_opens m_lists m_listed m_work m_counts m_older m_products m_part m_parts m_ways m_used m_greaterNow m_countNow) sz) := by
  refine Met.ofW (cc := cX7_step) (maxL := 2) (ret := none) (by decide) rfl ?_
  intro p e s m args below meth c s₁ B hml hv
  obtain ⟨rfl, hsz, hP, hK, hD0, hN⟩ := hv
  have hx := B.exec
  have hb := B.bytes
  have hr := B.returns
  have hts0 := atoms_spec (ws := (.code yX7_step cX7_step 2 none :: gt)) B.pre
  have hts : ∀ w ∈ gt, w.before _ s = true := fun w h => hts0 w (List.mem_cons_of_mem _ h)
  have hown : s.vm.findClass RX7 = some m.cls := findClass_of_methodNamed B.named
  have hlocks := B.notSynchronized
  subst hsz
  have hD := hD0.self (sz := s.heap.size)
  generalize hAe : va_A (wX7 cs ad m_n m_order m_shelf m_opens m_lists m_listed m_work m_counts m_older m_products m_part m_parts m_ways m_used m_greaterNow m_countNow) s.heap.size = A at hD ⊢
  have hA : ∀ q : Nat, s.heap.size ≤ q → A q := fun q h => by rw [← hAe]; exact Or.inr h
  have hS : va_S A s.heap s.heap [] := va_S.rf
  have hl := lv_entry ([.ref (ad 0)]) (n := 2) (Nat.le_of_ble_eq_true rfl)
  rw [lg_entry_eq]
  generalize (lg_sl ([.ref (ad 0)]) ++ List.replicate (2 - (lg_sl ([.ref (ad 0)])).length) Slot.unset).toArray = ls at hl ⊢
  have hl : lv_has ls 2 [(0, .ref (ad 0))] := hl
  have B2 : ∀ (k2 : Nat) (x1 : Int32) (m_counts : Nat → Int64) (m_older : Nat → Int64) (H : Heap) (locs : List Loc) (ls : Array Slot), q7_step_2 Q k2 x1 m_counts m_older → va_P (dC, dI) vwCl (wX7 cs ad m_n m_order m_shelf m_opens m_lists m_listed m_work m_counts m_older m_products m_part m_parts m_ways m_used m_greaterNow m_countNow) H → va_D A (wX7 cs ad m_n m_order m_shelf m_opens m_lists m_listed m_work m_counts m_older m_products m_part m_parts m_ways m_used m_greaterNow m_countNow) → va_S A s.heap H locs → lv_has ls 2 [(0, .ref (ad 0)), (1, .int x1)] → W p l e ({ frames := 0, cells := 0, slots := 0, locals := 0 } : Room) s m ([.ref (ad 0)] : List Value).toArray below meth c H locs 0 0 (MQ below (va_Qv (fun (u : (Nat → Int64) × (Nat → Int64)) => Q u.1 u.2) (Bw (dC, dI) (KA cs) A (fun u : (Nat → Int64) × (Nat → Int64) => (wX7 cs ad m_n m_order m_shelf m_opens m_lists m_listed m_work u.1 u.2 m_products m_part m_parts m_ways m_used m_greaterNow m_countNow))) A) ([.ref (ad 0)] : List Value).toArray s 0 0 A) (F0 m 2 ls []) := by
    intro k2
    induction k2 with
    | zero => intro x1 m_counts m_older H locs ls hq; exact False.elim hq
    | succ k2 ih2 =>
      intro x1 m_counts m_older H locs ls hq hP hD hS hl
      unfold q7_step_2 at hq
      refine lv_iload_n hx hb dX7_step_2 rfl (lv_at hl 1 rfl) ?_
      refine lv_sipush (v := (210 : Int32)) hx hb dX7_step_3 (by decide) ?_
      refine lv_icmp_gt (tgt := 34) hx hb dX7_step_6 (by decide) (fun c5 => ?_) (fun c5 => ?_)
      · have hq := hq.1 c5
        exact W.vret hx hb hr (fun t ht hW => ⟨⟨(m_counts, m_older), rfl, hq, Bw_mk (by rw [ht]; exact hP) (va_K.moved hW.alike hK) hD⟩, hS.F ht⟩) hS.2.2 dX7_step_34
      · have hq := hq.2 c5
        refine lv_aload_n hx hb dX7_step_9 rfl (lv_at hl 0 rfl) ?_
        refine va_get (D := (dC, dI)) (ci := 7) (v := .ref (ad 7)) (C := RX7) (T := TX7) (N := 16) hx hb hts uwX7 hown hK hP 0 rfl rfl 8 (by decide) (hts _ fl_X7_36) (fun _ h9 => h9) rfl dX7_step_10 ?_
        refine lv_iload_n hx hb dX7_step_13 rfl (lv_at hl 1 rfl) ?_
        refine lv_aload_n hx hb dX7_step_14 rfl (lv_at hl 0 rfl) ?_
        refine va_get (D := (dC, dI)) (ci := 7) (v := .ref (ad 6)) (C := RX7) (T := TX7) (N := 16) hx hb hts uwX7 hown hK hP 0 rfl rfl 7 (by decide) (hts _ fl_X7_32) (fun _ h9 => h9) rfl dX7_step_15 ?_
        refine lv_iload_n hx hb dX7_step_18 rfl (lv_at hl 1 rfl) ?_
        obtain ⟨i6, hq⟩ := hq
        refine va_lald hx hb hK hP 6 1 rfl rfl i6 dX7_step_19 ?_
        obtain ⟨i7, hq⟩ := hq
        refine va_last hx hb hK hP hD hS 7 1 rfl rfl i7 dX7_step_20 (fun H locs hP hD hS => ?_)
        have hP : va_P (dC, dI) vwCl (wX7 cs ad m_n m_order m_shelf m_opens m_lists m_listed m_work m_counts (vp_updL m_older x1.toNatClampNeg (m_counts x1.toNatClampNeg)) m_products m_part m_parts m_ways m_used m_greaterNow m_countNow) H := hP
        have hD : va_D A (wX7 cs ad m_n m_order m_shelf m_opens m_lists m_listed m_work m_counts (vp_updL m_older x1.toNatClampNeg (m_counts x1.toNatClampNeg)) m_products m_part m_parts m_ways m_used m_greaterNow m_countNow) := hD
        refine lv_aload_n hx hb dX7_step_21 rfl (lv_at hl 0 rfl) ?_
        refine va_get (D := (dC, dI)) (ci := 7) (v := .ref (ad 6)) (C := RX7) (T := TX7) (N := 16) hx hb hts uwX7 hown hK hP 0 rfl rfl 7 (by decide) (hts _ fl_X7_32) (fun _ h9 => h9) rfl dX7_step_22 ?_
        refine lv_iload_n hx hb dX7_step_25 rfl (lv_at hl 1 rfl) ?_
        refine lv_lconst (v := (0 : Int64)) hx hb dX7_step_26 (by decide) ?_
        obtain ⟨i8, hq⟩ := hq
        refine va_last hx hb hK hP hD hS 6 1 rfl rfl i8 dX7_step_27 (fun H locs hP hD hS => ?_)
        have hP : va_P (dC, dI) vwCl (wX7 cs ad m_n m_order m_shelf m_opens m_lists m_listed m_work (vp_updL m_counts x1.toNatClampNeg (0 : Int64)) (vp_updL m_older x1.toNatClampNeg (m_counts x1.toNatClampNeg)) m_products m_part m_parts m_ways m_used m_greaterNow m_countNow) H := hP
        have hD : va_D A (wX7 cs ad m_n m_order m_shelf m_opens m_lists m_listed m_work (vp_updL m_counts x1.toNatClampNeg (0 : Int64)) (vp_updL m_older x1.toNatClampNeg (m_counts x1.toNatClampNeg)) m_products m_part m_parts m_ways m_used m_greaterNow m_countNow) := hD
        refine lv_iinc (v := (x1 + (1 : Int32))) (lv' := [(1, .int (x1 + (1 : Int32))), (0, .ref (ad 0))]) hx hb dX7_step_28 hl (k := 1) rfl (by rfl) (by decide) rfl (fun ls hl => ?_)
        refine lv_goto (tgt := 2) hx hb dX7_step_31 (by decide) ?_
        exact ih2 (x1 + (1 : Int32)) (vp_updL m_counts x1.toNatClampNeg (0 : Int64)) (vp_updL m_older x1.toNatClampNeg (m_counts x1.toNatClampNeg)) _ _ _ hq hP hD hS (lv_sub hl [1, 0] rfl)
  unfold q7_step at hq
  refine lv_iconst (v := (0 : Int32)) hx hb dX7_step_0 (by decide) ?_
  refine lv_istore_n (lv' := [(1, .int (0 : Int32)), (0, .ref (ad 0))]) hx hb dX7_step_1 rfl hl (by decide) rfl (fun ls hl => ?_)
  obtain ⟨kf, hq⟩ := hq
  exact B2 kf (0 : Int32) m_counts m_older _ _ _ hq hP hD hS (lv_sub hl [1, 0] rfl)
set_option maxHeartbeats 4000000 in
set_option maxRecDepth 100000 in
theorem c7_countByThings (l : Launch) (dC : Nat → ClassId) (dI : Nat → Nat → Nat) (cs : Nat → ClassId) (ad : Nat → Nat) (sz : Nat) (m_n : Int32) (m_order : Nat → Int32) (m_shelf : Nat → Int32) (m_opens : Int32) (m_lists : Nat → Int32) (m_listed : Nat → Int32) (m_work : Nat → Int32) (m_counts : Nat → Int64) (m_older : Nat → Int64) (m_products : Nat → Int64) (m_part : Nat → Int32) (m_parts : Int32) (m_ways : Nat → Int64) (m_used : Int32) (m_greaterNow : Int32) (m_countNow : Int32) (a1 : Int32) {Q : (Nat → Int64) → (Nat → Int64) → Prop} (hq : q7_countByThings m_n m_counts m_older a1 Q) : Met l yX7_countByThings (.code yX7_countByThings cX7_countByThings 7 none :: gt) ({ frames := 1, cells := 0, slots := 0, locals := 21 } : Room) (va_Pc [.ref (ad 0), .int a1] (Pw (dC, dI) (KA cs) (wX7 cs ad m_n m_order m_shelf m_opens m_lists m_listed m_work m_counts m_older m_products m_part m_parts m_ways m_used m_greaterNow m_countNow) sz)) (va_Qv (fun (u : (Nat → Int64) × (Nat → Int64)) => Q u.1 u.2) (Bw (dC, dI) (KA cs) (va_A (wX7 cs ad m_n m_order m_shelf m_opens m_lists m_listed m_work m_counts m_older m_products m_part m_parts m_ways m_used m_greaterNow m_countNow) sz) (fun u : (Nat → Int64) × (Nat → Int64) => (wX7 cs ad m_n m_order m_shelf m_opens m_lists m_listed m_work u.1 u.2 m_products m_part m_parts m_ways m_used m_greaterNow m_countNow))) (va_A (wX7 cs ad m_n m_order m_shelf m_opens m_lists m_listed m_work m_counts m_older m_products m_part m_parts m_ways m_used m_greaterNow m_countNow) sz)) 0 0 (va_A (wX7 cs ad m_n m_order m_shelf m_opens m_lists m_listed m_work m_counts m_older m_products m_part m_parts m_ways m_used m_greaterNow m_countNow) sz) := by
  refine Met.ofW (cc := cX7_countByThings) (maxL := 7) (ret := none) (by decide) rfl ?_
  intro p e s m args below meth c s₁ B hml hv
  obtain ⟨rfl, hsz, hP, hK, hD0, hN⟩ := hv
  have hx := B.exec
  have hb := B.bytes
  have hr := B.returns
  have hts0 := atoms_spec (ws := (.code yX7_countByThings cX7_countByThings 7 none :: gt)) B.pre
  have hts : ∀ w ∈ gt, w.before _ s = true := fun w h => hts0 w (List.mem_cons_of_mem _ h)
  have hown : s.vm.findClass RX7 = some m.cls := findClass_of_methodNamed B.named
  have hlocks := B.notSynchronized
  subst hsz
  have hD := hD0.self (sz := s.heap.size)
  generalize hAe : va_A (wX7 cs ad m_n m_order m_shelf m_opens m_lists m_listed m_work m_counts m_older m_products m_part m_parts m_ways m_used m_greaterNow m_countNow) s.heap.size = A at hD ⊢
  have hA : ∀ q : Nat, s.heap.size ≤ q → A q := fun q h => by rw [← hAe]; exact Or.inr h
  have hS : va_S A s.heap s.heap [] := va_S.rf
  have hl := lv_entry ([.ref (ad 0), .int a1]) (n := 7) (Nat.le_of_ble_eq_true rfl)
  rw [lg_entry_eq]
  generalize (lg_sl ([.ref (ad 0), .int a1]) ++ List.replicate (7 - (lg_sl ([.ref (ad 0), .int a1])).length) Slot.unset).toArray = ls at hl ⊢
  have hl : lv_has ls 7 [(0, .ref (ad 0)), (1, .int a1)] := hl
  have B42 : ∀ (k42 : Nat) (x1 : Int32) (x2 : Int32) (m_counts : Nat → Int64) (m_older : Nat → Int64) (H : Heap) (locs : List Loc) (ls : Array Slot), q7_countByThings_42 m_n Q k42 x1 x2 m_counts m_older → va_P (dC, dI) vwCl (wX7 cs ad m_n m_order m_shelf m_opens m_lists m_listed m_work m_counts m_older m_products m_part m_parts m_ways m_used m_greaterNow m_countNow) H → va_D A (wX7 cs ad m_n m_order m_shelf m_opens m_lists m_listed m_work m_counts m_older m_products m_part m_parts m_ways m_used m_greaterNow m_countNow) → va_S A s.heap H locs → lv_has ls 7 [(0, .ref (ad 0)), (1, .int x1), (2, .int x2)] → W p l e ({ frames := 1, cells := 0, slots := 0, locals := 21 } : Room) s m ([.ref (ad 0), .int a1] : List Value).toArray below meth c H locs 0 0 (MQ below (va_Qv (fun (u : (Nat → Int64) × (Nat → Int64)) => Q u.1 u.2) (Bw (dC, dI) (KA cs) A (fun u : (Nat → Int64) × (Nat → Int64) => (wX7 cs ad m_n m_order m_shelf m_opens m_lists m_listed m_work u.1 u.2 m_products m_part m_parts m_ways m_used m_greaterNow m_countNow))) A) ([.ref (ad 0), .int a1] : List Value).toArray s 0 0 A) (F0 m 42 ls []) := by
    intro k42
    induction k42 with
    | zero => intro x1 x2 m_counts m_older H locs ls hq; exact False.elim hq
    | succ k42 ih42 =>
      intro x1 x2 m_counts m_older H locs ls hq hP hD hS hl
      have B196 : ∀ (x1 : Int32) (x2 : Int32) (m_counts : Nat → Int64) (m_older : Nat → Int64) (H : Heap) (locs : List Loc) (ls : Array Slot), q7_countByThings_196 m_n (fun v0 v1 v2 v3 => q7_countByThings_42 m_n Q k42 v0 v1 v2 v3) Q x1 x2 m_counts m_older → va_P (dC, dI) vwCl (wX7 cs ad m_n m_order m_shelf m_opens m_lists m_listed m_work m_counts m_older m_products m_part m_parts m_ways m_used m_greaterNow m_countNow) H → va_D A (wX7 cs ad m_n m_order m_shelf m_opens m_lists m_listed m_work m_counts m_older m_products m_part m_parts m_ways m_used m_greaterNow m_countNow) → va_S A s.heap H locs → lv_has ls 7 [(0, .ref (ad 0)), (1, .int x1), (2, .int x2)] → W p l e ({ frames := 1, cells := 0, slots := 0, locals := 21 } : Room) s m ([.ref (ad 0), .int a1] : List Value).toArray below meth c H locs 0 0 (MQ below (va_Qv (fun (u : (Nat → Int64) × (Nat → Int64)) => Q u.1 u.2) (Bw (dC, dI) (KA cs) A (fun u : (Nat → Int64) × (Nat → Int64) => (wX7 cs ad m_n m_order m_shelf m_opens m_lists m_listed m_work u.1 u.2 m_products m_part m_parts m_ways m_used m_greaterNow m_countNow))) A) ([.ref (ad 0), .int a1] : List Value).toArray s 0 0 A) (F0 m 196 ls []) := by
        intro x1 x2 m_counts m_older H locs ls hq hP hD hS hl
        unfold q7_countByThings_196 at hq
        refine lv_iinc (v := (x2 + (1 : Int32))) (lv' := [(2, .int (x2 + (1 : Int32))), (0, .ref (ad 0)), (1, .int x1)]) hx hb dX7_countByThings_196 hl (k := 2) rfl (by rfl) (by decide) rfl (fun ls hl => ?_)
        refine lv_goto (tgt := 42) hx hb dX7_countByThings_199 (by decide) ?_
        exact ih42 x1 (x2 + (1 : Int32)) m_counts m_older _ _ _ hq hP hD hS (lv_sub hl [1, 2, 0] rfl)
      have B56 : ∀ (k56 : Nat) (x1 : Int32) (x2 : Int32) (x3 : Int32) (m_counts : Nat → Int64) (m_older : Nat → Int64) (H : Heap) (locs : List Loc) (ls : Array Slot), q7_countByThings_56 m_n (fun v0 v1 v2 v3 => q7_countByThings_42 m_n Q k42 v0 v1 v2 v3) Q k56 x1 x2 x3 m_counts m_older → va_P (dC, dI) vwCl (wX7 cs ad m_n m_order m_shelf m_opens m_lists m_listed m_work m_counts m_older m_products m_part m_parts m_ways m_used m_greaterNow m_countNow) H → va_D A (wX7 cs ad m_n m_order m_shelf m_opens m_lists m_listed m_work m_counts m_older m_products m_part m_parts m_ways m_used m_greaterNow m_countNow) → va_S A s.heap H locs → lv_has ls 7 [(0, .ref (ad 0)), (1, .int x1), (2, .int x2), (3, .int x3)] → W p l e ({ frames := 1, cells := 0, slots := 0, locals := 21 } : Room) s m ([.ref (ad 0), .int a1] : List Value).toArray below meth c H locs 0 0 (MQ below (va_Qv (fun (u : (Nat → Int64) × (Nat → Int64)) => Q u.1 u.2) (Bw (dC, dI) (KA cs) A (fun u : (Nat → Int64) × (Nat → Int64) => (wX7 cs ad m_n m_order m_shelf m_opens m_lists m_listed m_work u.1 u.2 m_products m_part m_parts m_ways m_used m_greaterNow m_countNow))) A) ([.ref (ad 0), .int a1] : List Value).toArray s 0 0 A) (F0 m 56 ls []) := by
        intro k56
        induction k56 with
        | zero => intro x1 x2 x3 m_counts m_older H locs ls hq; exact False.elim hq
        | succ k56 ih56 =>
          intro x1 x2 x3 m_counts m_older H locs ls hq hP hD hS hl
          have B190 : ∀ (x1 : Int32) (x2 : Int32) (x3 : Int32) (m_counts : Nat → Int64) (m_older : Nat → Int64) (H : Heap) (locs : List Loc) (ls : Array Slot), q7_countByThings_190 m_n (fun v0 v1 v2 v3 => q7_countByThings_42 m_n Q k42 v0 v1 v2 v3) (fun v0 v1 v2 v3 v4 => q7_countByThings_56 m_n (fun v0 v1 v2 v3 => q7_countByThings_42 m_n Q k42 v0 v1 v2 v3) Q k56 v0 v1 v2 v3 v4) Q x1 x2 x3 m_counts m_older → va_P (dC, dI) vwCl (wX7 cs ad m_n m_order m_shelf m_opens m_lists m_listed m_work m_counts m_older m_products m_part m_parts m_ways m_used m_greaterNow m_countNow) H → va_D A (wX7 cs ad m_n m_order m_shelf m_opens m_lists m_listed m_work m_counts m_older m_products m_part m_parts m_ways m_used m_greaterNow m_countNow) → va_S A s.heap H locs → lv_has ls 7 [(0, .ref (ad 0)), (1, .int x1), (2, .int x2), (3, .int x3)] → W p l e ({ frames := 1, cells := 0, slots := 0, locals := 21 } : Room) s m ([.ref (ad 0), .int a1] : List Value).toArray below meth c H locs 0 0 (MQ below (va_Qv (fun (u : (Nat → Int64) × (Nat → Int64)) => Q u.1 u.2) (Bw (dC, dI) (KA cs) A (fun u : (Nat → Int64) × (Nat → Int64) => (wX7 cs ad m_n m_order m_shelf m_opens m_lists m_listed m_work u.1 u.2 m_products m_part m_parts m_ways m_used m_greaterNow m_countNow))) A) ([.ref (ad 0), .int a1] : List Value).toArray s 0 0 A) (F0 m 190 ls []) := by
            intro x1 x2 x3 m_counts m_older H locs ls hq hP hD hS hl
            unfold q7_countByThings_190 at hq
            refine lv_iinc (v := (x3 + (1 : Int32))) (lv' := [(3, .int (x3 + (1 : Int32))), (0, .ref (ad 0)), (1, .int x1), (2, .int x2)]) hx hb dX7_countByThings_190 hl (k := 3) rfl (by rfl) (by decide) rfl (fun ls hl => ?_)
            refine lv_goto (tgt := 56) hx hb dX7_countByThings_193 (by decide) ?_
            exact ih56 x1 x2 (x3 + (1 : Int32)) m_counts m_older _ _ _ hq hP hD hS (lv_sub hl [1, 2, 3, 0] rfl)
          have B154 : ∀ (k154 : Nat) (x1 : Int32) (x2 : Int32) (x3 : Int32) (x6 : Int32) (m_counts : Nat → Int64) (m_older : Nat → Int64) (H : Heap) (locs : List Loc) (ls : Array Slot), q7_countByThings_154 m_n (fun v0 v1 v2 v3 => q7_countByThings_42 m_n Q k42 v0 v1 v2 v3) (fun v0 v1 v2 v3 v4 => q7_countByThings_56 m_n (fun v0 v1 v2 v3 => q7_countByThings_42 m_n Q k42 v0 v1 v2 v3) Q k56 v0 v1 v2 v3 v4) Q k154 x1 x2 x3 x6 m_counts m_older → va_P (dC, dI) vwCl (wX7 cs ad m_n m_order m_shelf m_opens m_lists m_listed m_work m_counts m_older m_products m_part m_parts m_ways m_used m_greaterNow m_countNow) H → va_D A (wX7 cs ad m_n m_order m_shelf m_opens m_lists m_listed m_work m_counts m_older m_products m_part m_parts m_ways m_used m_greaterNow m_countNow) → va_S A s.heap H locs → lv_has ls 7 [(0, .ref (ad 0)), (1, .int x1), (2, .int x2), (3, .int x3), (6, .int x6)] → W p l e ({ frames := 1, cells := 0, slots := 0, locals := 21 } : Room) s m ([.ref (ad 0), .int a1] : List Value).toArray below meth c H locs 0 0 (MQ below (va_Qv (fun (u : (Nat → Int64) × (Nat → Int64)) => Q u.1 u.2) (Bw (dC, dI) (KA cs) A (fun u : (Nat → Int64) × (Nat → Int64) => (wX7 cs ad m_n m_order m_shelf m_opens m_lists m_listed m_work u.1 u.2 m_products m_part m_parts m_ways m_used m_greaterNow m_countNow))) A) ([.ref (ad 0), .int a1] : List Value).toArray s 0 0 A) (F0 m 154 ls []) := by
            intro k154
            induction k154 with
            | zero => intro x1 x2 x3 x6 m_counts m_older H locs ls hq; exact False.elim hq
            | succ k154 ih154 =>
              intro x1 x2 x3 x6 m_counts m_older H locs ls hq hP hD hS hl
              unfold q7_countByThings_154 at hq
              refine lv_iload hx hb dX7_countByThings_154 (lv_at hl 4 rfl) ?_
              refine lv_iload_n hx hb dX7_countByThings_156 rfl (lv_at hl 2 rfl) ?_
              refine lv_icmp_ge (tgt := 190) hx hb dX7_countByThings_157 (by decide) (fun c24 => ?_) (fun c24 => ?_)
              · have hq := hq.1 c24
                exact B190 x1 x2 x3 m_counts m_older _ _ _ hq hP hD hS (lv_sub hl [0, 1, 2, 3] rfl)
              · have hq := hq.2 c24
                refine lv_iload hx hb dX7_countByThings_160 (lv_at hl 4 rfl) ?_
                refine lv_iload_n hx hb dX7_countByThings_162 rfl (lv_at hl 3 rfl) ?_
                refine lv_icmp_gt (tgt := 190) hx hb dX7_countByThings_163 (by decide) (fun c25 => ?_) (fun c25 => ?_)
                · have hq := hq.1 c25
                  exact B190 x1 x2 x3 m_counts m_older _ _ _ hq hP hD hS (lv_sub hl [0, 1, 2, 3] rfl)
                · have hq := hq.2 c25
                  refine lv_aload_n hx hb dX7_countByThings_166 rfl (lv_at hl 0 rfl) ?_
                  refine va_get (D := (dC, dI)) (ci := 7) (v := .ref (ad 6)) (C := RX7) (T := TX7) (N := 16) hx hb hts uwX7 hown hK hP 0 rfl rfl 7 (by decide) (hts _ fl_X7_32) (fun _ h9 => h9) rfl dX7_countByThings_167 ?_
                  refine lv_iload_n hx hb dX7_countByThings_170 rfl (lv_at hl 3 rfl) ?_
                  refine lv_dup2_11 hx hb dX7_countByThings_171 rfl rfl ?_
                  obtain ⟨i26, hq⟩ := hq
                  refine va_lald hx hb hK hP 6 1 rfl rfl i26 dX7_countByThings_172 ?_
                  refine lv_aload_n hx hb dX7_countByThings_173 rfl (lv_at hl 0 rfl) ?_
                  refine va_get (D := (dC, dI)) (ci := 7) (v := .ref (ad 7)) (C := RX7) (T := TX7) (N := 16) hx hb hts uwX7 hown hK hP 0 rfl rfl 8 (by decide) (hts _ fl_X7_36) (fun _ h9 => h9) rfl dX7_countByThings_174 ?_
                  refine lv_iload_n hx hb dX7_countByThings_177 rfl (lv_at hl 3 rfl) ?_
                  refine lv_iload hx hb dX7_countByThings_178 (lv_at hl 4 rfl) ?_
                  refine lv_isub hx hb dX7_countByThings_180 ?_
                  obtain ⟨i27, hq⟩ := hq
                  refine va_lald hx hb hK hP 7 1 rfl rfl i27 dX7_countByThings_181 ?_
                  refine lv_ladd hx hb dX7_countByThings_182 ?_
                  obtain ⟨i28, hq⟩ := hq
                  refine va_last hx hb hK hP hD hS 6 1 rfl rfl i28 dX7_countByThings_183 (fun H locs hP hD hS => ?_)
                  have hP : va_P (dC, dI) vwCl (wX7 cs ad m_n m_order m_shelf m_opens m_lists m_listed m_work (vp_updL m_counts x3.toNatClampNeg ((m_counts x3.toNatClampNeg) + (m_older (x3 - x6).toNatClampNeg))) m_older m_products m_part m_parts m_ways m_used m_greaterNow m_countNow) H := hP
                  have hD : va_D A (wX7 cs ad m_n m_order m_shelf m_opens m_lists m_listed m_work (vp_updL m_counts x3.toNatClampNeg ((m_counts x3.toNatClampNeg) + (m_older (x3 - x6).toNatClampNeg))) m_older m_products m_part m_parts m_ways m_used m_greaterNow m_countNow) := hD
                  refine lv_iinc (v := (x6 + (1 : Int32))) (lv' := [(6, .int (x6 + (1 : Int32))), (0, .ref (ad 0)), (1, .int x1), (2, .int x2), (3, .int x3)]) hx hb dX7_countByThings_184 hl (k := 4) rfl (by rfl) (by decide) rfl (fun ls hl => ?_)
                  refine lv_goto (tgt := 154) hx hb dX7_countByThings_187 (by decide) ?_
                  exact ih154 x1 x2 x3 (x6 + (1 : Int32)) (vp_updL m_counts x3.toNatClampNeg ((m_counts x3.toNatClampNeg) + (m_older (x3 - x6).toNatClampNeg))) m_older _ _ _ hq hP hD hS (lv_sub hl [1, 2, 3, 4, 0] rfl)
          have B147 : ∀ (s1 : Int32) (s2 : Int64) (x1 : Int32) (x2 : Int32) (x3 : Int32) (m_counts : Nat → Int64) (m_older : Nat → Int64) (H : Heap) (locs : List Loc) (ls : Array Slot), q7_countByThings_147 m_n (fun v0 v1 v2 v3 => q7_countByThings_42 m_n Q k42 v0 v1 v2 v3) (fun v0 v1 v2 v3 v4 => q7_countByThings_56 m_n (fun v0 v1 v2 v3 => q7_countByThings_42 m_n Q k42 v0 v1 v2 v3) Q k56 v0 v1 v2 v3 v4) Q s1 s2 x1 x2 x3 m_counts m_older → va_P (dC, dI) vwCl (wX7 cs ad m_n m_order m_shelf m_opens m_lists m_listed m_work m_counts m_older m_products m_part m_parts m_ways m_used m_greaterNow m_countNow) H → va_D A (wX7 cs ad m_n m_order m_shelf m_opens m_lists m_listed m_work m_counts m_older m_products m_part m_parts m_ways m_used m_greaterNow m_countNow) → va_S A s.heap H locs → lv_has ls 7 [(0, .ref (ad 0)), (1, .int x1), (2, .int x2), (3, .int x3)] → W p l e ({ frames := 1, cells := 0, slots := 0, locals := 21 } : Room) s m ([.ref (ad 0), .int a1] : List Value).toArray below meth c H locs 0 0 (MQ below (va_Qv (fun (u : (Nat → Int64) × (Nat → Int64)) => Q u.1 u.2) (Bw (dC, dI) (KA cs) A (fun u : (Nat → Int64) × (Nat → Int64) => (wX7 cs ad m_n m_order m_shelf m_opens m_lists m_listed m_work u.1 u.2 m_products m_part m_parts m_ways m_used m_greaterNow m_countNow))) A) ([.ref (ad 0), .int a1] : List Value).toArray s 0 0 A) (F0 m 147 ls [.long s2, .int s1, .ref (ad 6)]) := by
            intro s1 s2 x1 x2 x3 m_counts m_older H locs ls hq hP hD hS hl
            unfold q7_countByThings_147 at hq
            obtain ⟨i29, hq⟩ := hq
            refine va_last hx hb hK hP hD hS 6 1 rfl rfl i29 dX7_countByThings_147 (fun H locs hP hD hS => ?_)
            have hP : va_P (dC, dI) vwCl (wX7 cs ad m_n m_order m_shelf m_opens m_lists m_listed m_work (vp_updL m_counts s1.toNatClampNeg s2) m_older m_products m_part m_parts m_ways m_used m_greaterNow m_countNow) H := hP
            have hD : va_D A (wX7 cs ad m_n m_order m_shelf m_opens m_lists m_listed m_work (vp_updL m_counts s1.toNatClampNeg s2) m_older m_products m_part m_parts m_ways m_used m_greaterNow m_countNow) := hD
            refine lv_goto (tgt := 190) hx hb dX7_countByThings_148 (by decide) ?_
            exact B190 x1 x2 x3 (vp_updL m_counts s1.toNatClampNeg s2) m_older _ _ _ hq hP hD hS (lv_sub hl [0, 1, 2, 3] rfl)
          have B79 : ∀ (s0 : Int64) (x1 : Int32) (x2 : Int32) (x3 : Int32) (m_counts : Nat → Int64) (m_older : Nat → Int64) (H : Heap) (locs : List Loc) (ls : Array Slot), q7_countByThings_79 m_n (fun v0 v1 v2 v3 => q7_countByThings_42 m_n Q k42 v0 v1 v2 v3) (fun v0 v1 v2 v3 v4 => q7_countByThings_56 m_n (fun v0 v1 v2 v3 => q7_countByThings_42 m_n Q k42 v0 v1 v2 v3) Q k56 v0 v1 v2 v3 v4) Q s0 x1 x2 x3 m_counts m_older → va_P (dC, dI) vwCl (wX7 cs ad m_n m_order m_shelf m_opens m_lists m_listed m_work m_counts m_older m_products m_part m_parts m_ways m_used m_greaterNow m_countNow) H → va_D A (wX7 cs ad m_n m_order m_shelf m_opens m_lists m_listed m_work m_counts m_older m_products m_part m_parts m_ways m_used m_greaterNow m_countNow) → va_S A s.heap H locs → lv_has ls 7 [(0, .ref (ad 0)), (1, .int x1), (2, .int x2), (3, .int x3)] → W p l e ({ frames := 1, cells := 0, slots := 0, locals := 21 } : Room) s m ([.ref (ad 0), .int a1] : List Value).toArray below meth c H locs 0 0 (MQ below (va_Qv (fun (u : (Nat → Int64) × (Nat → Int64)) => Q u.1 u.2) (Bw (dC, dI) (KA cs) A (fun u : (Nat → Int64) × (Nat → Int64) => (wX7 cs ad m_n m_order m_shelf m_opens m_lists m_listed m_work u.1 u.2 m_products m_part m_parts m_ways m_used m_greaterNow m_countNow))) A) ([.ref (ad 0), .int a1] : List Value).toArray s 0 0 A) (F0 m 79 ls [.long s0]) := by
            intro s0 x1 x2 x3 m_counts m_older H locs ls hq hP hD hS hl
            unfold q7_countByThings_79 at hq
            refine lv_lstore (lv' := [(4, .long s0), (0, .ref (ad 0)), (1, .int x1), (2, .int x2), (3, .int x3)]) hx hb dX7_countByThings_79 hl (by decide) rfl (fun ls hl => ?_)
            refine lv_iload_n hx hb dX7_countByThings_81 rfl (lv_at hl 2 rfl) ?_
            refine lv_iconst (v := (2 : Int32)) hx hb dX7_countByThings_82 (by decide) ?_
            refine lv_icmp_ge (tgt := 109) hx hb dX7_countByThings_83 (by decide) (fun c30 => ?_) (fun c30 => ?_)
            · have hq := hq.1 c30
              refine lv_iload_n hx hb dX7_countByThings_109 rfl (lv_at hl 2 rfl) ?_
              refine lv_iconst (v := (2 : Int32)) hx hb dX7_countByThings_110 (by decide) ?_
              refine lv_icmp_ne (tgt := 151) hx hb dX7_countByThings_111 (by decide) (fun c31 => ?_) (fun c31 => ?_)
              · have hq := hq.1 c31
                refine lv_iconst (v := (0 : Int32)) hx hb dX7_countByThings_151 (by decide) ?_
                refine lv_istore (lv' := [(6, .int (0 : Int32)), (4, .long s0), (0, .ref (ad 0)), (1, .int x1), (2, .int x2), (3, .int x3)]) hx hb dX7_countByThings_152 hl (by decide) rfl (fun ls hl => ?_)
                obtain ⟨kf, hq⟩ := hq
                exact B154 kf x1 x2 x3 (0 : Int32) m_counts m_older _ _ _ hq hP hD hS (lv_sub hl [2, 3, 4, 5, 0] rfl)
              · have hq := hq.2 c31
                refine lv_aload_n hx hb dX7_countByThings_114 rfl (lv_at hl 1 rfl) ?_
                refine va_get (D := (dC, dI)) (ci := 7) (v := .ref (ad 6)) (C := RX7) (T := TX7) (N := 16) hx hb hts uwX7 hown hK hP 0 rfl rfl 7 (by decide) (hts _ fl_X7_32) (fun _ h9 => h9) rfl dX7_countByThings_115 ?_
                refine lv_iload_n hx hb dX7_countByThings_118 rfl (lv_at hl 4 rfl) ?_
                refine lv_iload_n hx hb dX7_countByThings_119 rfl (lv_at hl 4 rfl) ?_
                refine lv_iload_n hx hb dX7_countByThings_120 rfl (lv_at hl 3 rfl) ?_
                refine lv_icmp_ge (tgt := 146) hx hb dX7_countByThings_121 (by decide) (fun c32 => ?_) (fun c32 => ?_)
                · have hq := hq.1 c32
                  refine lv_lconst (v := (0 : Int64)) hx hb dX7_countByThings_146 (by decide) ?_
                  exact B147 x3 (0 : Int64) x1 x2 x3 m_counts m_older _ _ _ hq hP hD hS (lv_sub hl [1, 2, 3, 4] rfl)
                · have hq := hq.2 c32
                  refine lv_aload_n hx hb dX7_countByThings_124 rfl (lv_at hl 1 rfl) ?_
                  refine va_get (D := (dC, dI)) (ci := 7) (v := .ref (ad 7)) (C := RX7) (T := TX7) (N := 16) hx hb hts uwX7 hown hK hP 0 rfl rfl 8 (by decide) (hts _ fl_X7_36) (fun _ h9 => h9) rfl dX7_countByThings_125 ?_
                  refine lv_iload_n hx hb dX7_countByThings_128 rfl (lv_at hl 4 rfl) ?_
                  obtain ⟨i33, hq⟩ := hq
                  refine va_lald hx hb hK hP 7 1 rfl rfl i33 dX7_countByThings_129 ?_
                  refine lv_iload_n hx hb dX7_countByThings_130 rfl (lv_at hl 4 rfl) ?_
                  refine lv_iconst (v := (1 : Int32)) hx hb dX7_countByThings_131 (by decide) ?_
                  refine lv_iadd hx hb dX7_countByThings_132 ?_
                  refine lv_i2l (v := (x3 + (1 : Int32)).toInt64) hx hb dX7_countByThings_133 rfl ?_
                  refine lv_lmul hx hb dX7_countByThings_134 ?_
                  refine lv_lload hx hb dX7_countByThings_135 (lv_at hl 0 rfl) ?_
                  refine lv_iload_n hx hb dX7_countByThings_137 rfl (lv_at hl 3 rfl) ?_
                  refine lv_iload_n hx hb dX7_countByThings_138 rfl (lv_at hl 4 rfl) ?_
                  refine lv_isub hx hb dX7_countByThings_139 ?_
                  refine lv_i2l (v := (x2 - x3).toInt64) hx hb dX7_countByThings_140 rfl ?_
                  refine lv_lmul hx hb dX7_countByThings_141 ?_
                  refine lv_ladd hx hb dX7_countByThings_142 ?_
                  refine lv_goto (tgt := 147) hx hb dX7_countByThings_143 (by decide) ?_
                  exact B147 x3 (((m_older x3.toNatClampNeg) * (x3 + (1 : Int32)).toInt64) + (s0 * (x2 - x3).toInt64)) x1 x2 x3 m_counts m_older _ _ _ hq hP hD hS (lv_sub hl [1, 2, 3, 4] rfl)
            · have hq := hq.2 c30
              refine lv_aload_n hx hb dX7_countByThings_86 rfl (lv_at hl 1 rfl) ?_
              refine va_get (D := (dC, dI)) (ci := 7) (v := .ref (ad 6)) (C := RX7) (T := TX7) (N := 16) hx hb hts uwX7 hown hK hP 0 rfl rfl 7 (by decide) (hts _ fl_X7_32) (fun _ h9 => h9) rfl dX7_countByThings_87 ?_
              refine lv_iload_n hx hb dX7_countByThings_90 rfl (lv_at hl 4 rfl) ?_
              refine lv_aload_n hx hb dX7_countByThings_91 rfl (lv_at hl 1 rfl) ?_
              refine va_get (D := (dC, dI)) (ci := 7) (v := .ref (ad 7)) (C := RX7) (T := TX7) (N := 16) hx hb hts uwX7 hown hK hP 0 rfl rfl 8 (by decide) (hts _ fl_X7_36) (fun _ h9 => h9) rfl dX7_countByThings_92 ?_
              refine lv_iload_n hx hb dX7_countByThings_95 rfl (lv_at hl 4 rfl) ?_
              obtain ⟨i34, hq⟩ := hq
              refine va_lald hx hb hK hP 7 1 rfl rfl i34 dX7_countByThings_96 ?_
              refine lv_iload_n hx hb dX7_countByThings_97 rfl (lv_at hl 3 rfl) ?_
              refine lv_iconst (v := (1 : Int32)) hx hb dX7_countByThings_98 (by decide) ?_
              refine lv_isub hx hb dX7_countByThings_99 ?_
              refine lv_i2l (v := (x2 - (1 : Int32)).toInt64) hx hb dX7_countByThings_100 rfl ?_
              refine lv_lmul hx hb dX7_countByThings_101 ?_
              refine lv_lload hx hb dX7_countByThings_102 (lv_at hl 0 rfl) ?_
              refine lv_ladd hx hb dX7_countByThings_104 ?_
              obtain ⟨i35, hq⟩ := hq
              refine va_last hx hb hK hP hD hS 6 1 rfl rfl i35 dX7_countByThings_105 (fun H locs hP hD hS => ?_)
              have hP : va_P (dC, dI) vwCl (wX7 cs ad m_n m_order m_shelf m_opens m_lists m_listed m_work (vp_updL m_counts x3.toNatClampNeg (((m_older x3.toNatClampNeg) * (x2 - (1 : Int32)).toInt64) + s0)) m_older m_products m_part m_parts m_ways m_used m_greaterNow m_countNow) H := hP
              have hD : va_D A (wX7 cs ad m_n m_order m_shelf m_opens m_lists m_listed m_work (vp_updL m_counts x3.toNatClampNeg (((m_older x3.toNatClampNeg) * (x2 - (1 : Int32)).toInt64) + s0)) m_older m_products m_part m_parts m_ways m_used m_greaterNow m_countNow) := hD
              refine lv_goto (tgt := 190) hx hb dX7_countByThings_106 (by decide) ?_
              exact B190 x1 x2 x3 (vp_updL m_counts x3.toNatClampNeg (((m_older x3.toNatClampNeg) * (x2 - (1 : Int32)).toInt64) + s0)) m_older _ _ _ hq hP hD hS (lv_sub hl [1, 2, 3, 4] rfl)
          unfold q7_countByThings_56 at hq
          refine lv_iload_n hx hb dX7_countByThings_56 rfl (lv_at hl 3 rfl) ?_
          refine lv_sipush (v := (210 : Int32)) hx hb dX7_countByThings_57 (by decide) ?_
          refine lv_icmp_gt (tgt := 196) hx hb dX7_countByThings_60 (by decide) (fun c36 => ?_) (fun c36 => ?_)
          · have hq := hq.1 c36
            exact B196 x1 x2 m_counts m_older _ _ _ hq hP hD hS (lv_sub hl [0, 1, 2] rfl)
          · have hq := hq.2 c36
            refine lv_iload_n hx hb dX7_countByThings_63 rfl (lv_at hl 3 rfl) ?_
            refine lv_if_le (tgt := 78) hx hb dX7_countByThings_64 (by decide) (fun c37 => ?_) (fun c37 => ?_)
            · have hq := hq.1 c37
              refine lv_lconst (v := (0 : Int64)) hx hb dX7_countByThings_78 (by decide) ?_
              exact B79 (0 : Int64) x1 x2 x3 m_counts m_older _ _ _ hq hP hD hS (lv_sub hl [0, 1, 2, 3] rfl)
            · have hq := hq.2 c37
              refine lv_aload_n hx hb dX7_countByThings_67 rfl (lv_at hl 0 rfl) ?_
              refine va_get (D := (dC, dI)) (ci := 7) (v := .ref (ad 7)) (C := RX7) (T := TX7) (N := 16) hx hb hts uwX7 hown hK hP 0 rfl rfl 8 (by decide) (hts _ fl_X7_36) (fun _ h9 => h9) rfl dX7_countByThings_68 ?_
              refine lv_iload_n hx hb dX7_countByThings_71 rfl (lv_at hl 3 rfl) ?_
              refine lv_iconst (v := (1 : Int32)) hx hb dX7_countByThings_72 (by decide) ?_
              refine lv_isub hx hb dX7_countByThings_73 ?_
              obtain ⟨i38, hq⟩ := hq
              refine va_lald hx hb hK hP 7 1 rfl rfl i38 dX7_countByThings_74 ?_
              refine lv_goto (tgt := 79) hx hb dX7_countByThings_75 (by decide) ?_
              exact B79 (m_older (x3 - (1 : Int32)).toNatClampNeg) x1 x2 x3 m_counts m_older _ _ _ hq hP hD hS (lv_sub hl [0, 1, 2, 3] rfl)
      unfold q7_countByThings_42 at hq
      refine lv_iload_n hx hb dX7_countByThings_42 rfl (lv_at hl 2 rfl) ?_
      refine lv_aload_n hx hb dX7_countByThings_43 rfl (lv_at hl 0 rfl) ?_
      refine va_get (D := (dC, dI)) (ci := 7) (v := .int m_n) (C := RX7) (T := TX7) (N := 16) hx hb hts uwX7 hown hK hP 0 rfl rfl 0 (by decide) (hts _ fl_X7_7) (fun _ h9 => h9) rfl dX7_countByThings_44 ?_
      refine lv_icmp_gt (tgt := 202) hx hb dX7_countByThings_47 (by decide) (fun c39 => ?_) (fun c39 => ?_)
      · have hq := hq.1 c39
        exact W.vret hx hb hr (fun t ht hW => ⟨⟨(m_counts, m_older), rfl, hq, Bw_mk (by rw [ht]; exact hP) (va_K.moved hW.alike hK) hD⟩, hS.F ht⟩) hS.2.2 dX7_countByThings_202
      · have hq := hq.2 c39
        refine lv_aload_n hx hb dX7_countByThings_50 rfl (lv_at hl 0 rfl) ?_
        refine swv (runV ⟨hx, hb, hml, hown, hts⟩ wf_X7_step ml_X7_92 (c7_step l dC dI cs ad _ m_n m_order m_shelf m_opens m_lists m_listed m_work m_counts m_older m_products m_part m_parts m_ways m_used m_greaterNow m_countNow  hq) ⟨⟨rfl, rfl⟩, by decide, by decide⟩ (preW hP hK hN hD) hK hP rfl 0 rfl rfl hl.1 rfl (Nat.le_of_ble_eq_true rfl) dX7_countByThings_51 ⟨(Nat.le_of_ble_eq_true rfl), (Nat.le_of_ble_eq_true rfl)⟩) hD hS hA (fun  u42 H locs hq hP hD hS => ?_)
        obtain ⟨m_counts_40, m_older_41⟩ := u42
        try dsimp only at hq
        have hP : va_P (dC, dI) vwCl (wX7 cs ad m_n m_order m_shelf m_opens m_lists m_listed m_work m_counts_40 m_older_41 m_products m_part m_parts m_ways m_used m_greaterNow m_countNow) H := hP
        have hD : va_D A (wX7 cs ad m_n m_order m_shelf m_opens m_lists m_listed m_work m_counts_40 m_older_41 m_products m_part m_parts m_ways m_used m_greaterNow m_countNow) := hD
        refine lv_iconst (v := (0 : Int32)) hx hb dX7_countByThings_54 (by decide) ?_
        refine lv_istore_n (lv' := [(3, .int (0 : Int32)), (0, .ref (ad 0)), (1, .int x1), (2, .int x2)]) hx hb dX7_countByThings_55 rfl hl (by decide) rfl (fun ls hl => ?_)
        obtain ⟨kf, hq⟩ := hq
        exact B56 kf x1 x2 (0 : Int32) m_counts_40 m_older_41 _ _ _ hq hP hD hS (lv_sub hl [1, 2, 3, 0] rfl)
  have B40 : ∀ (x1 : Int32) (m_counts : Nat → Int64) (m_older : Nat → Int64) (H : Heap) (locs : List Loc) (ls : Array Slot), q7_countByThings_40 m_n Q x1 m_counts m_older → va_P (dC, dI) vwCl (wX7 cs ad m_n m_order m_shelf m_opens m_lists m_listed m_work m_counts m_older m_products m_part m_parts m_ways m_used m_greaterNow m_countNow) H → va_D A (wX7 cs ad m_n m_order m_shelf m_opens m_lists m_listed m_work m_counts m_older m_products m_part m_parts m_ways m_used m_greaterNow m_countNow) → va_S A s.heap H locs → lv_has ls 7 [(0, .ref (ad 0)), (1, .int x1)] → W p l e ({ frames := 1, cells := 0, slots := 0, locals := 21 } : Room) s m ([.ref (ad 0), .int a1] : List Value).toArray below meth c H locs 0 0 (MQ below (va_Qv (fun (u : (Nat → Int64) × (Nat → Int64)) => Q u.1 u.2) (Bw (dC, dI) (KA cs) A (fun u : (Nat → Int64) × (Nat → Int64) => (wX7 cs ad m_n m_order m_shelf m_opens m_lists m_listed m_work u.1 u.2 m_products m_part m_parts m_ways m_used m_greaterNow m_countNow))) A) ([.ref (ad 0), .int a1] : List Value).toArray s 0 0 A) (F0 m 40 ls []) := by
    intro x1 m_counts m_older H locs ls hq hP hD hS hl
    unfold q7_countByThings_40 at hq
    refine lv_iconst (v := (2 : Int32)) hx hb dX7_countByThings_40 (by decide) ?_
    refine lv_istore_n (lv' := [(2, .int (2 : Int32)), (0, .ref (ad 0)), (1, .int x1)]) hx hb dX7_countByThings_41 rfl hl (by decide) rfl (fun ls hl => ?_)
    obtain ⟨kf, hq⟩ := hq
    exact B42 kf x1 (2 : Int32) m_counts m_older _ _ _ hq hP hD hS (lv_sub hl [1, 2, 0] rfl)
  have B2 : ∀ (k2 : Nat) (x1 : Int32) (x2 : Int32) (m_counts : Nat → Int64) (m_older : Nat → Int64) (H : Heap) (locs : List Loc) (ls : Array Slot), q7_countByThings_2 m_n Q k2 x1 x2 m_counts m_older → va_P (dC, dI) vwCl (wX7 cs ad m_n m_order m_shelf m_opens m_lists m_listed m_work m_counts m_older m_products m_part m_parts m_ways m_used m_greaterNow m_countNow) H → va_D A (wX7 cs ad m_n m_order m_shelf m_opens m_lists m_listed m_work m_counts m_older m_products m_part m_parts m_ways m_used m_greaterNow m_countNow) → va_S A s.heap H locs → lv_has ls 7 [(0, .ref (ad 0)), (1, .int x1), (2, .int x2)] → W p l e ({ frames := 1, cells := 0, slots := 0, locals := 21 } : Room) s m ([.ref (ad 0), .int a1] : List Value).toArray below meth c H locs 0 0 (MQ below (va_Qv (fun (u : (Nat → Int64) × (Nat → Int64)) => Q u.1 u.2) (Bw (dC, dI) (KA cs) A (fun u : (Nat → Int64) × (Nat → Int64) => (wX7 cs ad m_n m_order m_shelf m_opens m_lists m_listed m_work u.1 u.2 m_products m_part m_parts m_ways m_used m_greaterNow m_countNow))) A) ([.ref (ad 0), .int a1] : List Value).toArray s 0 0 A) (F0 m 2 ls []) := by
    intro k2
    induction k2 with
    | zero => intro x1 x2 m_counts m_older H locs ls hq; exact False.elim hq
    | succ k2 ih2 =>
      intro x1 x2 m_counts m_older H locs ls hq hP hD hS hl
      have B33 : ∀ (s1 : Int32) (s2 : Int64) (x1 : Int32) (x2 : Int32) (m_counts : Nat → Int64) (m_older : Nat → Int64) (H : Heap) (locs : List Loc) (ls : Array Slot), q7_countByThings_33 m_n (fun v0 v1 v2 v3 => q7_countByThings_2 m_n Q k2 v0 v1 v2 v3) Q s1 s2 x1 x2 m_counts m_older → va_P (dC, dI) vwCl (wX7 cs ad m_n m_order m_shelf m_opens m_lists m_listed m_work m_counts m_older m_products m_part m_parts m_ways m_used m_greaterNow m_countNow) H → va_D A (wX7 cs ad m_n m_order m_shelf m_opens m_lists m_listed m_work m_counts m_older m_products m_part m_parts m_ways m_used m_greaterNow m_countNow) → va_S A s.heap H locs → lv_has ls 7 [(0, .ref (ad 0)), (1, .int x1), (2, .int x2)] → W p l e ({ frames := 1, cells := 0, slots := 0, locals := 21 } : Room) s m ([.ref (ad 0), .int a1] : List Value).toArray below meth c H locs 0 0 (MQ below (va_Qv (fun (u : (Nat → Int64) × (Nat → Int64)) => Q u.1 u.2) (Bw (dC, dI) (KA cs) A (fun u : (Nat → Int64) × (Nat → Int64) => (wX7 cs ad m_n m_order m_shelf m_opens m_lists m_listed m_work u.1 u.2 m_products m_part m_parts m_ways m_used m_greaterNow m_countNow))) A) ([.ref (ad 0), .int a1] : List Value).toArray s 0 0 A) (F0 m 33 ls [.long s2, .int s1, .ref (ad 6)]) := by
        intro s1 s2 x1 x2 m_counts m_older H locs ls hq hP hD hS hl
        unfold q7_countByThings_33 at hq
        obtain ⟨i43, hq⟩ := hq
        refine va_last hx hb hK hP hD hS 6 1 rfl rfl i43 dX7_countByThings_33 (fun H locs hP hD hS => ?_)
        have hP : va_P (dC, dI) vwCl (wX7 cs ad m_n m_order m_shelf m_opens m_lists m_listed m_work (vp_updL m_counts s1.toNatClampNeg s2) m_older m_products m_part m_parts m_ways m_used m_greaterNow m_countNow) H := hP
        have hD : va_D A (wX7 cs ad m_n m_order m_shelf m_opens m_lists m_listed m_work (vp_updL m_counts s1.toNatClampNeg s2) m_older m_products m_part m_parts m_ways m_used m_greaterNow m_countNow) := hD
        refine lv_iinc (v := (x2 + (1 : Int32))) (lv' := [(2, .int (x2 + (1 : Int32))), (0, .ref (ad 0)), (1, .int x1)]) hx hb dX7_countByThings_34 hl (k := 2) rfl (by rfl) (by decide) rfl (fun ls hl => ?_)
        refine lv_goto (tgt := 2) hx hb dX7_countByThings_37 (by decide) ?_
        exact ih2 x1 (x2 + (1 : Int32)) (vp_updL m_counts s1.toNatClampNeg s2) m_older _ _ _ hq hP hD hS (lv_sub hl [1, 2, 0] rfl)
      have B25 : ∀ (s1 : Int32) (s2 : Int32) (s3 : Int32) (x1 : Int32) (x2 : Int32) (m_counts : Nat → Int64) (m_older : Nat → Int64) (H : Heap) (locs : List Loc) (ls : Array Slot), q7_countByThings_25 m_n (fun v0 v1 v2 v3 => q7_countByThings_2 m_n Q k2 v0 v1 v2 v3) Q s1 s2 s3 x1 x2 m_counts m_older → va_P (dC, dI) vwCl (wX7 cs ad m_n m_order m_shelf m_opens m_lists m_listed m_work m_counts m_older m_products m_part m_parts m_ways m_used m_greaterNow m_countNow) H → va_D A (wX7 cs ad m_n m_order m_shelf m_opens m_lists m_listed m_work m_counts m_older m_products m_part m_parts m_ways m_used m_greaterNow m_countNow) → va_S A s.heap H locs → lv_has ls 7 [(0, .ref (ad 0)), (1, .int x1), (2, .int x2)] → W p l e ({ frames := 1, cells := 0, slots := 0, locals := 21 } : Room) s m ([.ref (ad 0), .int a1] : List Value).toArray below meth c H locs 0 0 (MQ below (va_Qv (fun (u : (Nat → Int64) × (Nat → Int64)) => Q u.1 u.2) (Bw (dC, dI) (KA cs) A (fun u : (Nat → Int64) × (Nat → Int64) => (wX7 cs ad m_n m_order m_shelf m_opens m_lists m_listed m_work u.1 u.2 m_products m_part m_parts m_ways m_used m_greaterNow m_countNow))) A) ([.ref (ad 0), .int a1] : List Value).toArray s 0 0 A) (F0 m 25 ls [.int s3, .int s2, .int s1, .ref (ad 6)]) := by
        intro s1 s2 s3 x1 x2 m_counts m_older H locs ls hq hP hD hS hl
        unfold q7_countByThings_25 at hq
        refine lv_icmp_ne (tgt := 32) hx hb dX7_countByThings_25 (by decide) (fun c44 => ?_) (fun c44 => ?_)
        · have hq := hq.1 c44
          refine lv_lconst (v := (0 : Int64)) hx hb dX7_countByThings_32 (by decide) ?_
          exact B33 s1 (0 : Int64) x1 x2 m_counts m_older _ _ _ hq hP hD hS (lv_sub hl [0, 1, 2] rfl)
        · have hq := hq.2 c44
          refine lv_lconst (v := (1 : Int64)) hx hb dX7_countByThings_28 (by decide) ?_
          refine lv_goto (tgt := 33) hx hb dX7_countByThings_29 (by decide) ?_
          exact B33 s1 (1 : Int64) x1 x2 m_counts m_older _ _ _ hq hP hD hS (lv_sub hl [0, 1, 2] rfl)
      unfold q7_countByThings_2 at hq
      refine lv_iload_n hx hb dX7_countByThings_2 rfl (lv_at hl 2 rfl) ?_
      refine lv_sipush (v := (210 : Int32)) hx hb dX7_countByThings_3 (by decide) ?_
      refine lv_icmp_gt (tgt := 40) hx hb dX7_countByThings_6 (by decide) (fun c45 => ?_) (fun c45 => ?_)
      · have hq := hq.1 c45
        exact B40 x1 m_counts m_older _ _ _ hq hP hD hS (lv_sub hl [0, 1] rfl)
      · have hq := hq.2 c45
        refine lv_aload_n hx hb dX7_countByThings_9 rfl (lv_at hl 0 rfl) ?_
        refine va_get (D := (dC, dI)) (ci := 7) (v := .ref (ad 6)) (C := RX7) (T := TX7) (N := 16) hx hb hts uwX7 hown hK hP 0 rfl rfl 7 (by decide) (hts _ fl_X7_32) (fun _ h9 => h9) rfl dX7_countByThings_10 ?_
        refine lv_iload_n hx hb dX7_countByThings_13 rfl (lv_at hl 2 rfl) ?_
        refine lv_iload_n hx hb dX7_countByThings_14 rfl (lv_at hl 2 rfl) ?_
        refine lv_iload_n hx hb dX7_countByThings_15 rfl (lv_at hl 1 rfl) ?_
        refine lv_iconst (v := (2 : Int32)) hx hb dX7_countByThings_16 (by decide) ?_
        refine lv_icmp_ge (tgt := 24) hx hb dX7_countByThings_17 (by decide) (fun c46 => ?_) (fun c46 => ?_)
        · have hq := hq.1 c46
          refine lv_iconst (v := (0 : Int32)) hx hb dX7_countByThings_24 (by decide) ?_
          exact B25 x2 x2 (0 : Int32) x1 x2 m_counts m_older _ _ _ hq hP hD hS (lv_sub hl [0, 1, 2] rfl)
        · have hq := hq.2 c46
          refine lv_iconst (v := (1 : Int32)) hx hb dX7_countByThings_20 (by decide) ?_
          refine lv_goto (tgt := 25) hx hb dX7_countByThings_21 (by decide) ?_
          exact B25 x2 x2 (1 : Int32) x1 x2 m_counts m_older _ _ _ hq hP hD hS (lv_sub hl [0, 1, 2] rfl)
  unfold q7_countByThings at hq
  refine lv_iconst (v := (0 : Int32)) hx hb dX7_countByThings_0 (by decide) ?_
  refine lv_istore_n (lv' := [(2, .int (0 : Int32)), (0, .ref (ad 0)), (1, .int a1)]) hx hb dX7_countByThings_1 rfl hl (by decide) rfl (fun ls hl => ?_)
  obtain ⟨kf, hq⟩ := hq
  exact B2 kf a1 (0 : Int32) m_counts m_older _ _ _ hq hP hD hS (lv_sub hl [1, 2, 0] rfl)
