set_option maxHeartbeats 4000000 in
set_option maxRecDepth 100000 in
theorem c7_in (l : Launch) (dC : Nat → ClassId) (dI : Nat → Nat → Nat) (cs : Nat → ClassId) (a0 : Int64) (a2 : Int64) (a4 : Int64) {Q : Int32 → Prop} (hq : q7_in a0 a2 a4 Q) : Met l yX7_in (.code yX7_in cX7_in 6 (some .boolean) :: gt) ({ frames := 0, cells := 0, slots := 0, locals := 0 } : Room) (va_Pc [.long a0, .long a2, .long a4] (Pr (dC, dI) (KA cs) ([] : va_W))) (vp_Si Q) 0 0 (fun _ => False) := by
  refine Met.ofW (cc := cX7_in) (maxL := 6) (ret := (some .boolean)) (by decide) rfl ?_
  intro p e s m args below meth c s₁ B hml hv
  obtain ⟨rfl, hP, hK, hN⟩ := hv
  have hx := B.exec
  have hb := B.bytes
  have hr := B.returns
  have hts0 := atoms_spec (ws := (.code yX7_in cX7_in 6 (some .boolean) :: gt)) B.pre
  have hts : ∀ w ∈ gt, w.before _ s = true := fun w h => hts0 w (List.mem_cons_of_mem _ h)
  have hown : s.vm.findClass RX7 = some m.cls := findClass_of_methodNamed B.named
  have hlocks := B.notSynchronized
  have hl := lv_entry ([.long a0, .long a2, .long a4]) (n := 6) (Nat.le_of_ble_eq_true rfl)
  rw [lg_entry_eq]
  generalize (lg_sl ([.long a0, .long a2, .long a4]) ++ List.replicate (6 - (lg_sl ([.long a0, .long a2, .long a4])).length) Slot.unset).toArray = ls at hl ⊢
  have hl : lv_has ls 6 [(0, .long a0), (2, .long a2), (4, .long a4)] := hl
  unfold q7_in at hq
  refine lv_lload_n hx hb dX7_in_0 rfl (lv_at hl 0 rfl) ?_
  refine lv_lload_n hx hb dX7_in_1 rfl (lv_at hl 1 rfl) ?_
  refine lc_lt (tgt := 17) hx hb dX7_in_2 dX7_in_3 (by decide) (fun c3 => ?_) (fun c3 => ?_)
  · have hq := hq.1 c3
    refine lv_iconst (v := (0 : Int32)) hx hb dX7_in_17 (by decide) ?_
    exact W.zret (ty := .boolean) (v := (0 : Int32)) hx hb hr rfl (fun t ht hW => ⟨(0 : Int32), rfl, hq, ht⟩) (fun q h => absurd h List.not_mem_nil) dX7_in_18
  · have hq := hq.2 c3
    refine lv_lload_n hx hb dX7_in_6 rfl (lv_at hl 0 rfl) ?_
    refine lv_lload hx hb dX7_in_7 (lv_at hl 2 rfl) ?_
    refine lc_gt (tgt := 17) hx hb dX7_in_9 dX7_in_10 (by decide) (fun c4 => ?_) (fun c4 => ?_)
    · have hq := hq.1 c4
      refine lv_iconst (v := (0 : Int32)) hx hb dX7_in_17 (by decide) ?_
      exact W.zret (ty := .boolean) (v := (0 : Int32)) hx hb hr rfl (fun t ht hW => ⟨(0 : Int32), rfl, hq, ht⟩) (fun q h => absurd h List.not_mem_nil) dX7_in_18
    · have hq := hq.2 c4
      refine lv_iconst (v := (1 : Int32)) hx hb dX7_in_13 (by decide) ?_
      refine lv_goto (tgt := 18) hx hb dX7_in_14 (by decide) ?_
      exact W.zret (ty := .boolean) (v := (1 : Int32)) hx hb hr rfl (fun t ht hW => ⟨(1 : Int32), rfl, hq, ht⟩) (fun q h => absurd h List.not_mem_nil) dX7_in_18
set_option maxHeartbeats 4000000 in
set_option maxRecDepth 100000 in
theorem c7_isThing (l : Launch) (dC : Nat → ClassId) (dI : Nat → Nat → Nat) (cs : Nat → ClassId) (ad : Nat → Nat) (m_n : Int32) (m_order : Nat → Int32) (m_shelf : Nat → Int32) (m_opens : Int32) (m_lists : Nat → Int32) (m_listed : Nat → Int32) (m_work : Nat → Int32) (m_counts : Nat → Int64) (m_older : Nat → Int64) (m_products : Nat → Int64) (m_part : Nat → Int32) (m_parts : Int32) (m_ways : Nat → Int64) (m_used : Int32) (m_greaterNow : Int32) (m_countNow : Int32) (a1 : Int32) {Q : Int32 → Prop} (hq : q7_isThing m_n a1 Q) : Met l yX7_isThing (.code yX7_isThing cX7_isThing 2 (some .boolean) :: gt) ({ frames := 1, cells := 0, slots := 0, locals := 25 } : Room) (va_Pc [.ref (ad 0), .int a1] (Pr (dC, dI) (KA cs) (wX7 cs ad m_n m_order m_shelf m_opens m_lists m_listed m_work m_counts m_older m_products m_part m_parts m_ways m_used m_greaterNow m_countNow))) (vp_Si Q) 0 0 (fun _ => False) := by
  refine Met.ofW (cc := cX7_isThing) (maxL := 2) (ret := (some .boolean)) (by decide) rfl ?_
  intro p e s m args below meth c s₁ B hml hv
  obtain ⟨rfl, hP, hK, hN⟩ := hv
  have hx := B.exec
  have hb := B.bytes
  have hr := B.returns
  have hts0 := atoms_spec (ws := (.code yX7_isThing cX7_isThing 2 (some .boolean) :: gt)) B.pre
  have hts : ∀ w ∈ gt, w.before _ s = true := fun w h => hts0 w (List.mem_cons_of_mem _ h)
  have hown : s.vm.findClass RX7 = some m.cls := findClass_of_methodNamed B.named
  have hlocks := B.notSynchronized
  have hl := lv_entry ([.ref (ad 0), .int a1]) (n := 2) (Nat.le_of_ble_eq_true rfl)
  rw [lg_entry_eq]
  generalize (lg_sl ([.ref (ad 0), .int a1]) ++ List.replicate (2 - (lg_sl ([.ref (ad 0), .int a1])).length) Slot.unset).toArray = ls at hl ⊢
  have hl : lv_has ls 2 [(0, .ref (ad 0)), (1, .int a1)] := hl
  unfold q7_isThing at hq
  refine lv_iload_n hx hb dX7_isThing_0 rfl (lv_at hl 1 rfl) ?_
  refine lv_i2l (v := a1.toInt64) hx hb dX7_isThing_1 rfl ?_
  refine lv_lconst (v := (0 : Int64)) hx hb dX7_isThing_2 (by decide) ?_
  refine lv_aload_n hx hb dX7_isThing_3 rfl (lv_at hl 0 rfl) ?_
  refine va_get (D := (dC, dI)) (ci := 7) (v := .int m_n) (C := RX7) (T := TX7) (N := 16) hx hb hts uwX7 hown hK hP 0 rfl rfl 0 (by decide) (hts _ fl_X7_7) (fun _ h9 => h9) rfl dX7_isThing_4 ?_
  refine lv_iconst (v := (1 : Int32)) hx hb dX7_isThing_7 (by decide) ?_
  refine lv_isub hx hb dX7_isThing_8 ?_
  refine lv_i2l (v := (m_n - (1 : Int32)).toInt64) hx hb dX7_isThing_9 rfl ?_
  refine roi (runS ⟨hx, hb, hml, hown, hts⟩ ws_X7_in ml_X7_51 (c7_in l dC dI cs   a1.toInt64 (0 : Int64) ((m_n - (1 : Int32)).toInt64) hq) ⟨⟨rfl, rfl⟩, by decide, by decide⟩ (preR va_P_nil hK hN) hN rfl hl.1 rfl (Nat.le_of_ble_eq_true rfl) dX7_isThing_10 ⟨(Nat.le_of_ble_eq_true rfl), (Nat.le_of_ble_eq_true rfl)⟩) (fun r2 hq => ?_)
  obtain ⟨zb, hq⟩ := hq
  exact W.zret (ty := .boolean) (v := r2) hx hb hr (by rcases zb with h9 | h9 <;> rw [h9] <;> rfl) (fun t ht hW => ⟨r2, rfl, hq, ht⟩) (fun q h => absurd h List.not_mem_nil) dX7_isThing_13
set_option maxHeartbeats 4000000 in
set_option maxRecDepth 100000 in
theorem c7_begin (l : Launch) (dC : Nat → ClassId) (dI : Nat → Nat → Nat) (cs : Nat → ClassId) (ad : Nat → Nat) (sz : Nat) (m_n : Int32) (m_order : Nat → Int32) (m_shelf : Nat → Int32) (m_opens : Int32) (m_lists : Nat → Int32) (m_listed : Nat → Int32) (m_work : Nat → Int32) (m_counts : Nat → Int64) (m_older : Nat → Int64) (m_products : Nat → Int64) (m_part : Nat → Int32) (m_parts : Int32) (m_ways : Nat → Int64) (m_used : Int32) (m_greaterNow : Int32) (m_countNow : Int32) {Q : (Nat → Int32) → (Nat → Int32) → Int32 → (Nat → Int32) → Prop} (hq : q7_begin m_n m_order m_shelf m_opens m_listed Q) : Met l yX7_begin (.code yX7_begin cX7_begin 3 none :: gt) ({ frames := 0, cells := 0, slots := 0, locals := 0 } : Room) (va_Pc [.ref (ad 0)] (Pw (dC, dI) (KA cs) (wX7 cs ad m_n m_order m_shelf m_opens m_lists m_listed m_work m_counts m_older m_products m_part m_parts m_ways m_used m_greaterNow m_countNow) sz)) (va_Qv (fun (u : (Nat → Int32) × (Nat → Int32) × Int32 × (Nat → Int32)) => Q u.1 u.2.1 u.2.2.1 u.2.2.2) (Bw (dC, dI) (KA cs) (va_A (wX7 cs ad m_n m_order m_shelf m_opens m_lists m_listed m_work m_counts m_older m_products m_part m_parts m_ways m_used m_greaterNow m_countNow) sz) (fun u : (Nat → Int32) × (Nat → Int32) × Int32 × (Nat → Int32) => (wX7 cs ad m_n u.1 u.2.1 u.2.2.1 m_lists u.2.2.2 m_work m_counts m_older m_products m_part m_parts m_ways m_used m_greaterNow m_countNow))) (va_A (wX7 cs ad m_n m_order m_shelf m_opens m_lists m_listed m_work m_counts m_older m_products m_part m_parts m_ways m_used m_greaterNow m_countNow) sz)) 0 0 (va_A (wX7 cs ad m_n m_order m_shelf m_opens m_lists m_listed m_work m_counts m_older m_products m_part m_parts m_ways m_used m_greaterNow m_countNow) sz) := by
  refine Met.ofW (cc := cX7_begin) (maxL := 3) (ret := none) (by decide) rfl ?_
  intro p e s m args below meth c s₁ B hml hv
  obtain ⟨rfl, hsz, hP, hK, hD0, hN⟩ := hv
  have hx := B.exec
  have hb := B.bytes
  have hr := B.returns
  have hts0 := atoms_spec (ws := (.code yX7_begin cX7_begin 3 none :: gt)) B.pre
  have hts : ∀ w ∈ gt, w.before _ s = true := fun w h => hts0 w (List.mem_cons_of_mem _ h)
  have hown : s.vm.findClass RX7 = some m.cls := findClass_of_methodNamed B.named
  have hlocks := B.notSynchronized
  subst hsz
  have hD := hD0.self (sz := s.heap.size)
  generalize hAe : va_A (wX7 cs ad m_n m_order m_shelf m_opens m_lists m_listed m_work m_counts m_older m_products m_part m_parts m_ways m_used m_greaterNow m_countNow) s.heap.size = A at hD ⊢
  have hA : ∀ q : Nat, s.heap.size ≤ q → A q := fun q h => by rw [← hAe]; exact Or.inr h
  have hS : va_S A s.heap s.heap [] := va_S.rf
  have hl := lv_entry ([.ref (ad 0)]) (n := 3) (Nat.le_of_ble_eq_true rfl)
  rw [lg_entry_eq]
  generalize (lg_sl ([.ref (ad 0)]) ++ List.replicate (3 - (lg_sl ([.ref (ad 0)])).length) Slot.unset).toArray = ls at hl ⊢
  have hl : lv_has ls 3 [(0, .ref (ad 0))] := hl
  have B53 : ∀ (m_order : Nat → Int32) (m_shelf : Nat → Int32) (m_opens : Int32) (m_listed : Nat → Int32) (H : Heap) (locs : List Loc) (ls : Array Slot), q7_begin_53 m_n Q m_order m_shelf m_opens m_listed → va_P (dC, dI) vwCl (wX7 cs ad m_n m_order m_shelf m_opens m_lists m_listed m_work m_counts m_older m_products m_part m_parts m_ways m_used m_greaterNow m_countNow) H → va_D A (wX7 cs ad m_n m_order m_shelf m_opens m_lists m_listed m_work m_counts m_older m_products m_part m_parts m_ways m_used m_greaterNow m_countNow) → va_S A s.heap H locs → lv_has ls 3 [(0, .ref (ad 0))] → W p l e ({ frames := 0, cells := 0, slots := 0, locals := 0 } : Room) s m ([.ref (ad 0)] : List Value).toArray below meth c H locs 0 0 (MQ below (va_Qv (fun (u : (Nat → Int32) × (Nat → Int32) × Int32 × (Nat → Int32)) => Q u.1 u.2.1 u.2.2.1 u.2.2.2) (Bw (dC, dI) (KA cs) A (fun u : (Nat → Int32) × (Nat → Int32) × Int32 × (Nat → Int32) => (wX7 cs ad m_n u.1 u.2.1 u.2.2.1 m_lists u.2.2.2 m_work m_counts m_older m_products m_part m_parts m_ways m_used m_greaterNow m_countNow))) A) ([.ref (ad 0)] : List Value).toArray s 0 0 A) (F0 m 53 ls []) := by
    intro m_order m_shelf m_opens m_listed H locs ls hq hP hD hS hl
    unfold q7_begin_53 at hq
    refine lv_aload_n hx hb dX7_begin_53 rfl (lv_at hl 0 rfl) ?_
    refine lv_aload_n hx hb dX7_begin_54 rfl (lv_at hl 0 rfl) ?_
    refine va_get (D := (dC, dI)) (ci := 7) (v := .int m_n) (C := RX7) (T := TX7) (N := 16) hx hb hts uwX7 hown hK hP 0 rfl rfl 0 (by decide) (hts _ fl_X7_7) (fun _ h9 => h9) rfl dX7_begin_55 ?_
    refine lv_iconst (v := (2 : Int32)) hx hb dX7_begin_58 (by decide) ?_
    refine lv_icmp_ge (tgt := 66) hx hb dX7_begin_59 (by decide) (fun c7 => ?_) (fun c7 => ?_)
    · have hq := hq.1 c7
      refine lv_iconst (v := (2 : Int32)) hx hb dX7_begin_66 (by decide) ?_
      refine va_put (D := (dC, dI)) (ci := 7) (v := .int (2 : Int32)) (ty := .int) (C := RX7) (T := TX7) (N := 16) hx hb hts uwX7 tyX7 tyX7_ok nmX7 hown hK hP hD hS 0 rfl rfl 3 (by decide) (hts _ fl_X7_20) (fun _ h9 => h9) rfl (by decide +kernel) rfl rfl (Nat.le_of_ble_eq_true rfl) dX7_begin_67 (fun H locs hP hD hS => ?_)
      have hP : va_P (dC, dI) vwCl (wX7 cs ad m_n m_order m_shelf (2 : Int32) m_lists m_listed m_work m_counts m_older m_products m_part m_parts m_ways m_used m_greaterNow m_countNow) H := hP
      have hD : va_D A (wX7 cs ad m_n m_order m_shelf (2 : Int32) m_lists m_listed m_work m_counts m_older m_products m_part m_parts m_ways m_used m_greaterNow m_countNow) := hD
      exact W.vret hx hb hr (fun t ht hW => ⟨⟨(m_order, m_shelf, (2 : Int32), m_listed), rfl, hq, Bw_mk (by rw [ht]; exact hP) (va_K.moved hW.alike hK) hD⟩, hS.F ht⟩) hS.2.2 dX7_begin_70
    · have hq := hq.2 c7
      refine lv_iconst (v := (1 : Int32)) hx hb dX7_begin_62 (by decide) ?_
      refine lv_goto (tgt := 67) hx hb dX7_begin_63 (by decide) ?_
      refine va_put (D := (dC, dI)) (ci := 7) (v := .int (1 : Int32)) (ty := .int) (C := RX7) (T := TX7) (N := 16) hx hb hts uwX7 tyX7 tyX7_ok nmX7 hown hK hP hD hS 0 rfl rfl 3 (by decide) (hts _ fl_X7_20) (fun _ h9 => h9) rfl (by decide +kernel) rfl rfl (Nat.le_of_ble_eq_true rfl) dX7_begin_67 (fun H locs hP hD hS => ?_)
      have hP : va_P (dC, dI) vwCl (wX7 cs ad m_n m_order m_shelf (1 : Int32) m_lists m_listed m_work m_counts m_older m_products m_part m_parts m_ways m_used m_greaterNow m_countNow) H := hP
      have hD : va_D A (wX7 cs ad m_n m_order m_shelf (1 : Int32) m_lists m_listed m_work m_counts m_older m_products m_part m_parts m_ways m_used m_greaterNow m_countNow) := hD
      exact W.vret hx hb hr (fun t ht hW => ⟨⟨(m_order, m_shelf, (1 : Int32), m_listed), rfl, hq, Bw_mk (by rw [ht]; exact hP) (va_K.moved hW.alike hK) hD⟩, hS.F ht⟩) hS.2.2 dX7_begin_70
  have B2 : ∀ (k2 : Nat) (x1 : Int32) (m_order : Nat → Int32) (m_shelf : Nat → Int32) (m_opens : Int32) (m_listed : Nat → Int32) (H : Heap) (locs : List Loc) (ls : Array Slot), q7_begin_2 m_n Q k2 x1 m_order m_shelf m_opens m_listed → va_P (dC, dI) vwCl (wX7 cs ad m_n m_order m_shelf m_opens m_lists m_listed m_work m_counts m_older m_products m_part m_parts m_ways m_used m_greaterNow m_countNow) H → va_D A (wX7 cs ad m_n m_order m_shelf m_opens m_lists m_listed m_work m_counts m_older m_products m_part m_parts m_ways m_used m_greaterNow m_countNow) → va_S A s.heap H locs → lv_has ls 3 [(0, .ref (ad 0)), (1, .int x1)] → W p l e ({ frames := 0, cells := 0, slots := 0, locals := 0 } : Room) s m ([.ref (ad 0)] : List Value).toArray below meth c H locs 0 0 (MQ below (va_Qv (fun (u : (Nat → Int32) × (Nat → Int32) × Int32 × (Nat → Int32)) => Q u.1 u.2.1 u.2.2.1 u.2.2.2) (Bw (dC, dI) (KA cs) A (fun u : (Nat → Int32) × (Nat → Int32) × Int32 × (Nat → Int32) => (wX7 cs ad m_n u.1 u.2.1 u.2.2.1 m_lists u.2.2.2 m_work m_counts m_older m_products m_part m_parts m_ways m_used m_greaterNow m_countNow))) A) ([.ref (ad 0)] : List Value).toArray s 0 0 A) (F0 m 2 ls []) := by
    intro k2
    induction k2 with
    | zero => intro x1 m_order m_shelf m_opens m_listed H locs ls hq; exact False.elim hq
    | succ k2 ih2 =>
      intro x1 m_order m_shelf m_opens m_listed H locs ls hq hP hD hS hl
      have B47 : ∀ (x1 : Int32) (m_order : Nat → Int32) (m_shelf : Nat → Int32) (m_opens : Int32) (m_listed : Nat → Int32) (H : Heap) (locs : List Loc) (ls : Array Slot), q7_begin_47 m_n (fun v0 v1 v2 v3 v4 => q7_begin_2 m_n Q k2 v0 v1 v2 v3 v4) Q x1 m_order m_shelf m_opens m_listed → va_P (dC, dI) vwCl (wX7 cs ad m_n m_order m_shelf m_opens m_lists m_listed m_work m_counts m_older m_products m_part m_parts m_ways m_used m_greaterNow m_countNow) H → va_D A (wX7 cs ad m_n m_order m_shelf m_opens m_lists m_listed m_work m_counts m_older m_products m_part m_parts m_ways m_used m_greaterNow m_countNow) → va_S A s.heap H locs → lv_has ls 3 [(0, .ref (ad 0)), (1, .int x1)] → W p l e ({ frames := 0, cells := 0, slots := 0, locals := 0 } : Room) s m ([.ref (ad 0)] : List Value).toArray below meth c H locs 0 0 (MQ below (va_Qv (fun (u : (Nat → Int32) × (Nat → Int32) × Int32 × (Nat → Int32)) => Q u.1 u.2.1 u.2.2.1 u.2.2.2) (Bw (dC, dI) (KA cs) A (fun u : (Nat → Int32) × (Nat → Int32) × Int32 × (Nat → Int32) => (wX7 cs ad m_n u.1 u.2.1 u.2.2.1 m_lists u.2.2.2 m_work m_counts m_older m_products m_part m_parts m_ways m_used m_greaterNow m_countNow))) A) ([.ref (ad 0)] : List Value).toArray s 0 0 A) (F0 m 47 ls []) := by
        intro x1 m_order m_shelf m_opens m_listed H locs ls hq hP hD hS hl
        unfold q7_begin_47 at hq
        refine lv_iinc (v := (x1 + (1 : Int32))) (lv' := [(1, .int (x1 + (1 : Int32))), (0, .ref (ad 0))]) hx hb dX7_begin_47 hl (k := 1) rfl (by rfl) (by decide) rfl (fun ls hl => ?_)
        refine lv_goto (tgt := 2) hx hb dX7_begin_50 (by decide) ?_
        exact ih2 (x1 + (1 : Int32)) m_order m_shelf m_opens m_listed _ _ _ hq hP hD hS (lv_sub hl [1, 0] rfl)
      have B24 : ∀ (k24 : Nat) (x1 : Int32) (x2 : Int32) (m_order : Nat → Int32) (m_shelf : Nat → Int32) (m_opens : Int32) (m_listed : Nat → Int32) (H : Heap) (locs : List Loc) (ls : Array Slot), q7_begin_24 m_n (fun v0 v1 v2 v3 v4 => q7_begin_2 m_n Q k2 v0 v1 v2 v3 v4) Q k24 x1 x2 m_order m_shelf m_opens m_listed → va_P (dC, dI) vwCl (wX7 cs ad m_n m_order m_shelf m_opens m_lists m_listed m_work m_counts m_older m_products m_part m_parts m_ways m_used m_greaterNow m_countNow) H → va_D A (wX7 cs ad m_n m_order m_shelf m_opens m_lists m_listed m_work m_counts m_older m_products m_part m_parts m_ways m_used m_greaterNow m_countNow) → va_S A s.heap H locs → lv_has ls 3 [(0, .ref (ad 0)), (1, .int x1), (2, .int x2)] → W p l e ({ frames := 0, cells := 0, slots := 0, locals := 0 } : Room) s m ([.ref (ad 0)] : List Value).toArray below meth c H locs 0 0 (MQ below (va_Qv (fun (u : (Nat → Int32) × (Nat → Int32) × Int32 × (Nat → Int32)) => Q u.1 u.2.1 u.2.2.1 u.2.2.2) (Bw (dC, dI) (KA cs) A (fun u : (Nat → Int32) × (Nat → Int32) × Int32 × (Nat → Int32) => (wX7 cs ad m_n u.1 u.2.1 u.2.2.1 m_lists u.2.2.2 m_work m_counts m_older m_products m_part m_parts m_ways m_used m_greaterNow m_countNow))) A) ([.ref (ad 0)] : List Value).toArray s 0 0 A) (F0 m 24 ls []) := by
        intro k24
        induction k24 with
        | zero => intro x1 x2 m_order m_shelf m_opens m_listed H locs ls hq; exact False.elim hq
        | succ k24 ih24 =>
          intro x1 x2 m_order m_shelf m_opens m_listed H locs ls hq hP hD hS hl
          unfold q7_begin_24 at hq
          refine lv_iload_n hx hb dX7_begin_24 rfl (lv_at hl 2 rfl) ?_
          refine lv_iconst (v := (4 : Int32)) hx hb dX7_begin_25 (by decide) ?_
          refine lv_icmp_ge (tgt := 47) hx hb dX7_begin_26 (by decide) (fun c8 => ?_) (fun c8 => ?_)
          · have hq := hq.1 c8
            exact B47 x1 m_order m_shelf m_opens m_listed _ _ _ hq hP hD hS (lv_sub hl [0, 1] rfl)
          · have hq := hq.2 c8
            refine lv_aload_n hx hb dX7_begin_29 rfl (lv_at hl 0 rfl) ?_
            refine va_get (D := (dC, dI)) (ci := 7) (v := .ref (ad 2)) (C := RX7) (T := TX7) (N := 16) hx hb hts uwX7 hown hK hP 0 rfl rfl 2 (by decide) (hts _ fl_X7_17) (fun _ h9 => h9) rfl dX7_begin_30 ?_
            refine lv_bipush (v := (18 : Int32)) hx hb dX7_begin_33 (by decide) ?_
            refine lv_iload_n hx hb dX7_begin_35 rfl (lv_at hl 2 rfl) ?_
            refine lv_imul hx hb dX7_begin_36 ?_
            refine lv_iload_n hx hb dX7_begin_37 rfl (lv_at hl 1 rfl) ?_
            refine lv_iadd hx hb dX7_begin_38 ?_
            refine lv_iload_n hx hb dX7_begin_39 rfl (lv_at hl 1 rfl) ?_
            obtain ⟨i9, hq⟩ := hq
            refine va_iast hx hb hK hP hD hS 2 0 rfl rfl i9 dX7_begin_40 (fun H locs hP hD hS => ?_)
            have hP : va_P (dC, dI) vwCl (wX7 cs ad m_n m_order (upd m_shelf (((18 : Int32) * x2) + x1).toNatClampNeg x1) m_opens m_lists m_listed m_work m_counts m_older m_products m_part m_parts m_ways m_used m_greaterNow m_countNow) H := hP
            have hD : va_D A (wX7 cs ad m_n m_order (upd m_shelf (((18 : Int32) * x2) + x1).toNatClampNeg x1) m_opens m_lists m_listed m_work m_counts m_older m_products m_part m_parts m_ways m_used m_greaterNow m_countNow) := hD
            refine lv_iinc (v := (x2 + (1 : Int32))) (lv' := [(2, .int (x2 + (1 : Int32))), (0, .ref (ad 0)), (1, .int x1)]) hx hb dX7_begin_41 hl (k := 2) rfl (by rfl) (by decide) rfl (fun ls hl => ?_)
            refine lv_goto (tgt := 24) hx hb dX7_begin_44 (by decide) ?_
            exact ih24 x1 (x2 + (1 : Int32)) m_order (upd m_shelf (((18 : Int32) * x2) + x1).toNatClampNeg x1) m_opens m_listed _ _ _ hq hP hD hS (lv_sub hl [1, 2, 0] rfl)
      unfold q7_begin_2 at hq
      refine lv_iload_n hx hb dX7_begin_2 rfl (lv_at hl 1 rfl) ?_
      refine lv_bipush (v := (18 : Int32)) hx hb dX7_begin_3 (by decide) ?_
      refine lv_icmp_ge (tgt := 53) hx hb dX7_begin_5 (by decide) (fun c10 => ?_) (fun c10 => ?_)
      · have hq := hq.1 c10
        exact B53 m_order m_shelf m_opens m_listed _ _ _ hq hP hD hS (lv_sub hl [0] rfl)
      · have hq := hq.2 c10
        refine lv_aload_n hx hb dX7_begin_8 rfl (lv_at hl 0 rfl) ?_
        refine va_get (D := (dC, dI)) (ci := 7) (v := .ref (ad 1)) (C := RX7) (T := TX7) (N := 16) hx hb hts uwX7 hown hK hP 0 rfl rfl 1 (by decide) (hts _ fl_X7_13) (fun _ h9 => h9) rfl dX7_begin_9 ?_
        refine lv_iload_n hx hb dX7_begin_12 rfl (lv_at hl 1 rfl) ?_
        refine lv_iload_n hx hb dX7_begin_13 rfl (lv_at hl 1 rfl) ?_
        obtain ⟨i11, hq⟩ := hq
        refine va_iast hx hb hK hP hD hS 1 0 rfl rfl i11 dX7_begin_14 (fun H locs hP hD hS => ?_)
        have hP : va_P (dC, dI) vwCl (wX7 cs ad m_n (upd m_order x1.toNatClampNeg x1) m_shelf m_opens m_lists m_listed m_work m_counts m_older m_products m_part m_parts m_ways m_used m_greaterNow m_countNow) H := hP
        have hD : va_D A (wX7 cs ad m_n (upd m_order x1.toNatClampNeg x1) m_shelf m_opens m_lists m_listed m_work m_counts m_older m_products m_part m_parts m_ways m_used m_greaterNow m_countNow) := hD
        refine lv_aload_n hx hb dX7_begin_15 rfl (lv_at hl 0 rfl) ?_
        refine va_get (D := (dC, dI)) (ci := 7) (v := .ref (ad 4)) (C := RX7) (T := TX7) (N := 16) hx hb hts uwX7 hown hK hP 0 rfl rfl 5 (by decide) (hts _ fl_X7_26) (fun _ h9 => h9) rfl dX7_begin_16 ?_
        refine lv_iload_n hx hb dX7_begin_19 rfl (lv_at hl 1 rfl) ?_
        refine lv_iconst (v := (0 : Int32)) hx hb dX7_begin_20 (by decide) ?_
        obtain ⟨i12, hq⟩ := hq
        refine va_iast hx hb hK hP hD hS 4 0 rfl rfl i12 dX7_begin_21 (fun H locs hP hD hS => ?_)
        have hP : va_P (dC, dI) vwCl (wX7 cs ad m_n (upd m_order x1.toNatClampNeg x1) m_shelf m_opens m_lists (upd m_listed x1.toNatClampNeg (0 : Int32)) m_work m_counts m_older m_products m_part m_parts m_ways m_used m_greaterNow m_countNow) H := hP
        have hD : va_D A (wX7 cs ad m_n (upd m_order x1.toNatClampNeg x1) m_shelf m_opens m_lists (upd m_listed x1.toNatClampNeg (0 : Int32)) m_work m_counts m_older m_products m_part m_parts m_ways m_used m_greaterNow m_countNow) := hD
        refine lv_iconst (v := (0 : Int32)) hx hb dX7_begin_22 (by decide) ?_
        refine lv_istore_n (lv' := [(2, .int (0 : Int32)), (0, .ref (ad 0)), (1, .int x1)]) hx hb dX7_begin_23 rfl hl (by decide) rfl (fun ls hl => ?_)
        obtain ⟨kf, hq⟩ := hq
        exact B24 kf x1 (0 : Int32) (upd m_order x1.toNatClampNeg x1) m_shelf m_opens (upd m_listed x1.toNatClampNeg (0 : Int32)) _ _ _ hq hP hD hS (lv_sub hl [1, 2, 0] rfl)
  unfold q7_begin at hq
  refine lv_iconst (v := (0 : Int32)) hx hb dX7_begin_0 (by decide) ?_
  refine lv_istore_n (lv' := [(1, .int (0 : Int32)), (0, .ref (ad 0))]) hx hb dX7_begin_1 rfl hl (by decide) rfl (fun ls hl => ?_)
  obtain ⟨kf, hq⟩ := hq
  exact B2 kf (0 : Int32) m_order m_shelf m_opens m_listed _ _ _ hq hP hD hS (lv_sub hl [1, 0] rfl)
set_option maxHeartbeats 4000000 in
set_option maxRecDepth 100000 in
theorem c7_things (l : Launch) (dC : Nat → ClassId) (dI : Nat → Nat → Nat) (cs : Nat → ClassId) (ad : Nat → Nat) (sz : Nat) (m_n : Int32) (m_order : Nat → Int32) (m_shelf : Nat → Int32) (m_opens : Int32) (m_lists : Nat → Int32) (m_listed : Nat → Int32) (m_work : Nat → Int32) (m_counts : Nat → Int64) (m_older : Nat → Int64) (m_products : Nat → Int64) (m_part : Nat → Int32) (m_parts : Int32) (m_ways : Nat → Int64) (m_used : Int32) (m_greaterNow : Int32) (m_countNow : Int32) (a1 : Int32) {Q : Int32 → Int32 → (Nat → Int32) → (Nat → Int32) → Int32 → (Nat → Int32) → Prop} (hq : q7_things m_n m_order m_shelf m_opens m_listed a1 Q) : Met l yX7_things (.code yX7_things cX7_things 2 (some .int) :: gt) ({ frames := 1, cells := 0, slots := 0, locals := 25 } : Room) (va_Pc [.ref (ad 0), .int a1] (Pw (dC, dI) (KA cs) (wX7 cs ad m_n m_order m_shelf m_opens m_lists m_listed m_work m_counts m_older m_products m_part m_parts m_ways m_used m_greaterNow m_countNow) sz)) (va_Qi (fun (r : Int32) (u : Int32 × (Nat → Int32) × (Nat → Int32) × Int32 × (Nat → Int32)) => Q r u.1 u.2.1 u.2.2.1 u.2.2.2.1 u.2.2.2.2) (Bw (dC, dI) (KA cs) (va_A (wX7 cs ad m_n m_order m_shelf m_opens m_lists m_listed m_work m_counts m_older m_products m_part m_parts m_ways m_used m_greaterNow m_countNow) sz) (fun u : Int32 × (Nat → Int32) × (Nat → Int32) × Int32 × (Nat → Int32) => (wX7 cs ad u.1 u.2.1 u.2.2.1 u.2.2.2.1 m_lists u.2.2.2.2 m_work m_counts m_older m_products m_part m_parts m_ways m_used m_greaterNow m_countNow))) (va_A (wX7 cs ad m_n m_order m_shelf m_opens m_lists m_listed m_work m_counts m_older m_products m_part m_parts m_ways m_used m_greaterNow m_countNow) sz)) 0 0 (va_A (wX7 cs ad m_n m_order m_shelf m_opens m_lists m_listed m_work m_counts m_older m_products m_part m_parts m_ways m_used m_greaterNow m_countNow) sz) := by
  refine Met.ofW (cc := cX7_things) (maxL := 2) (ret := (some .int)) (by decide) rfl ?_
  intro p e s m args below meth c s₁ B hml hv
  obtain ⟨rfl, hsz, hP, hK, hD0, hN⟩ := hv
  have hx := B.exec
  have hb := B.bytes
  have hr := B.returns
  have hts0 := atoms_spec (ws := (.code yX7_things cX7_things 2 (some .int) :: gt)) B.pre
  have hts : ∀ w ∈ gt, w.before _ s = true := fun w h => hts0 w (List.mem_cons_of_mem _ h)
  have hown : s.vm.findClass RX7 = some m.cls := findClass_of_methodNamed B.named
  have hlocks := B.notSynchronized
  subst hsz
  have hD := hD0.self (sz := s.heap.size)
  generalize hAe : va_A (wX7 cs ad m_n m_order m_shelf m_opens m_lists m_listed m_work m_counts m_older m_products m_part m_parts m_ways m_used m_greaterNow m_countNow) s.heap.size = A at hD ⊢
  have hA : ∀ q : Nat, s.heap.size ≤ q → A q := fun q h => by rw [← hAe]; exact Or.inr h
  have hS : va_S A s.heap s.heap [] := va_S.rf
  have hl := lv_entry ([.ref (ad 0), .int a1]) (n := 2) (Nat.le_of_ble_eq_true rfl)
  rw [lg_entry_eq]
  generalize (lg_sl ([.ref (ad 0), .int a1]) ++ List.replicate (2 - (lg_sl ([.ref (ad 0), .int a1])).length) Slot.unset).toArray = ls at hl ⊢
  have hl : lv_has ls 2 [(0, .ref (ad 0)), (1, .int a1)] := hl
  unfold q7_things at hq
  refine lv_iload_n hx hb dX7_things_0 rfl (lv_at hl 1 rfl) ?_
  refine lv_i2l (v := a1.toInt64) hx hb dX7_things_1 rfl ?_
  refine lv_lconst (v := (1 : Int64)) hx hb dX7_things_2 (by decide) ?_
  refine lv_ldc2 (v := (18 : Int64)) hx hb hown (hts _ kl_X7_55) dX7_things_3 ?_
  refine roi (runS ⟨hx, hb, hml, hown, hts⟩ ws_X7_in ml_X7_51 (c7_in l dC dI cs   a1.toInt64 (1 : Int64) (18 : Int64) hq) ⟨⟨rfl, rfl⟩, by decide, by decide⟩ (preR va_P_nil hK hN) hN rfl hl.1 rfl (Nat.le_of_ble_eq_true rfl) dX7_things_6 ⟨(Nat.le_of_ble_eq_true rfl), (Nat.le_of_ble_eq_true rfl)⟩) (fun r8 hq => ?_)
  refine lv_if_ne (tgt := 15) hx hb dX7_things_9 (by decide) (fun c9 => ?_) (fun c9 => ?_)
  · have hq := hq.1 c9
    refine lv_aload_n hx hb dX7_things_15 rfl (lv_at hl 0 rfl) ?_
    refine lv_iload_n hx hb dX7_things_16 rfl (lv_at hl 1 rfl) ?_
    refine va_put (D := (dC, dI)) (ci := 7) (v := .int a1) (ty := .int) (C := RX7) (T := TX7) (N := 16) hx hb hts uwX7 tyX7 tyX7_ok nmX7 hown hK hP hD hS 0 rfl rfl 0 (by decide) (hts _ fl_X7_7) (fun _ h9 => h9) rfl (by decide +kernel) rfl rfl (Nat.le_of_ble_eq_true rfl) dX7_things_17 (fun H locs hP hD hS => ?_)
    have hP : va_P (dC, dI) vwCl (wX7 cs ad a1 m_order m_shelf m_opens m_lists m_listed m_work m_counts m_older m_products m_part m_parts m_ways m_used m_greaterNow m_countNow) H := hP
    have hD : va_D A (wX7 cs ad a1 m_order m_shelf m_opens m_lists m_listed m_work m_counts m_older m_products m_part m_parts m_ways m_used m_greaterNow m_countNow) := hD
    refine lv_aload_n hx hb dX7_things_20 rfl (lv_at hl 0 rfl) ?_
    refine swv (runV ⟨hx, hb, hml, hown, hts⟩ wf_X7_begin ml_X7_48 (c7_begin l dC dI cs ad _ a1 m_order m_shelf m_opens m_lists m_listed m_work m_counts m_older m_products m_part m_parts m_ways m_used m_greaterNow m_countNow  hq) ⟨⟨rfl, rfl⟩, by decide, by decide⟩ (preW hP hK hN hD) hK hP rfl 0 rfl rfl hl.1 rfl (Nat.le_of_ble_eq_true rfl) dX7_things_21 ⟨(Nat.le_of_ble_eq_true rfl), (Nat.le_of_ble_eq_true rfl)⟩) hD hS hA (fun  u14 H locs hq hP hD hS => ?_)
    obtain ⟨m_order_10, m_shelf_11, m_opens_12, m_listed_13⟩ := u14
    try dsimp only at hq
    have hP : va_P (dC, dI) vwCl (wX7 cs ad a1 m_order_10 m_shelf_11 m_opens_12 m_lists m_listed_13 m_work m_counts m_older m_products m_part m_parts m_ways m_used m_greaterNow m_countNow) H := hP
    have hD : va_D A (wX7 cs ad a1 m_order_10 m_shelf_11 m_opens_12 m_lists m_listed_13 m_work m_counts m_older m_products m_part m_parts m_ways m_used m_greaterNow m_countNow) := hD
    refine lv_iconst (v := (1 : Int32)) hx hb dX7_things_24 (by decide) ?_
    exact W.iret (v := (1 : Int32)) hx hb hr (fun t ht hW => ⟨⟨(1 : Int32), (a1, m_order_10, m_shelf_11, m_opens_12, m_listed_13), rfl, hq, Bw_mk (by rw [ht]; exact hP) (va_K.moved hW.alike hK) hD⟩, hS.F ht⟩) hS.2.2 dX7_things_25
  · have hq := hq.2 c9
    refine lv_bipush (v := (-2 : Int32)) hx hb dX7_things_12 (by decide) ?_
    exact W.iret (v := (-2 : Int32)) hx hb hr (fun t ht hW => ⟨⟨(-2 : Int32), (m_n, m_order, m_shelf, m_opens, m_listed), rfl, hq, Bw_mk (by rw [ht]; exact hP) (va_K.moved hW.alike hK) hD⟩, hS.F ht⟩) hS.2.2 dX7_things_14
set_option maxHeartbeats 4000000 in
set_option maxRecDepth 100000 in
theorem c7_become (l : Launch) (dC : Nat → ClassId) (dI : Nat → Nat → Nat) (cs : Nat → ClassId) (ad : Nat → Nat) (sz : Nat) (m_n : Int32) (m_order : Nat → Int32) (m_shelf : Nat → Int32) (m_opens : Int32) (m_lists : Nat → Int32) (m_listed : Nat → Int32) (m_work : Nat → Int32) (m_counts : Nat → Int64) (m_older : Nat → Int64) (m_products : Nat → Int64) (m_part : Nat → Int32) (m_parts : Int32) (m_ways : Nat → Int64) (m_used : Int32) (m_greaterNow : Int32) (m_countNow : Int32) {Q : (Nat → Int32) → Prop} (hq : q7_become m_n m_work m_order Q) : Met l yX7_become (.code yX7_become cX7_become 2 none :: gt) ({ frames := 0, cells := 0, slots := 0, locals := 0 } : Room) (va_Pc [.ref (ad 0)] (Pw (dC, dI) (KA cs) (wX7 cs ad m_n m_order m_shelf m_opens m_lists m_listed m_work m_counts m_older m_products m_part m_parts m_ways m_used m_greaterNow m_countNow) sz)) (va_Qv (fun (u : (Nat → Int32)) => Q u) (Bw (dC, dI) (KA cs) (va_A (wX7 cs ad m_n m_order m_shelf m_opens m_lists m_listed m_work m_counts m_older m_products m_part m_parts m_ways m_used m_greaterNow m_countNow) sz) (fun u : (Nat → Int32) => (wX7 cs ad m_n u m_shelf m_opens m_lists m_listed m_work m_counts m_older m_products m_part m_parts m_ways m_used m_greaterNow m_countNow))) (va_A (wX7 cs ad m_n m_order m_shelf m_opens m_lists m_listed m_work m_counts m_older m_products m_part m_parts m_ways m_used m_greaterNow m_countNow) sz)) 0 0 (va_A (wX7 cs ad m_n m_order m_shelf m_opens m_lists m_listed m_work m_counts m_older m_products m_part m_parts m_ways m_used m_greaterNow m_countNow) sz) := by
  refine Met.ofW (cc := cX7_become) (maxL := 2) (ret := none) (by decide) rfl ?_
  intro p e s m args below meth c s₁ B hml hv
  obtain ⟨rfl, hsz, hP, hK, hD0, hN⟩ := hv
  have hx := B.exec
  have hb := B.bytes
  have hr := B.returns
  have hts0 := atoms_spec (ws := (.code yX7_become cX7_become 2 none :: gt)) B.pre
  have hts : ∀ w ∈ gt, w.before _ s = true := fun w h => hts0 w (List.mem_cons_of_mem _ h)
  have hown : s.vm.findClass RX7 = some m.cls := findClass_of_methodNamed B.named
  have hlocks := B.notSynchronized
  subst hsz
  have hD := hD0.self (sz := s.heap.size)
  generalize hAe : va_A (wX7 cs ad m_n m_order m_shelf m_opens m_lists m_listed m_work m_counts m_older m_products m_part m_parts m_ways m_used m_greaterNow m_countNow) s.heap.size = A at hD ⊢
  have hA : ∀ q : Nat, s.heap.size ≤ q → A q := fun q h => by rw [← hAe]; exact Or.inr h
  have hS : va_S A s.heap s.heap [] := va_S.rf
  have hl := lv_entry ([.ref (ad 0)]) (n := 2) (Nat.le_of_ble_eq_true rfl)
  rw [lg_entry_eq]
  generalize (lg_sl ([.ref (ad 0)]) ++ List.replicate (2 - (lg_sl ([.ref (ad 0)])).length) Slot.unset).toArray = ls at hl ⊢
  have hl : lv_has ls 2 [(0, .ref (ad 0))] := hl
  have B2 : ∀ (k2 : Nat) (x1 : Int32) (m_order : Nat → Int32) (H : Heap) (locs : List Loc) (ls : Array Slot), q7_become_2 m_n m_work Q k2 x1 m_order → va_P (dC, dI) vwCl (wX7 cs ad m_n m_order m_shelf m_opens m_lists m_listed m_work m_counts m_older m_products m_part m_parts m_ways m_used m_greaterNow m_countNow) H → va_D A (wX7 cs ad m_n m_order m_shelf m_opens m_lists m_listed m_work m_counts m_older m_products m_part m_parts m_ways m_used m_greaterNow m_countNow) → va_S A s.heap H locs → lv_has ls 2 [(0, .ref (ad 0)), (1, .int x1)] → W p l e ({ frames := 0, cells := 0, slots := 0, locals := 0 } : Room) s m ([.ref (ad 0)] : List Value).toArray below meth c H locs 0 0 (MQ below (va_Qv (fun (u : (Nat → Int32)) => Q u) (Bw (dC, dI) (KA cs) A (fun u : (Nat → Int32) => (wX7 cs ad m_n u m_shelf m_opens m_lists m_listed m_work m_counts m_older m_products m_part m_parts m_ways m_used m_greaterNow m_countNow))) A) ([.ref (ad 0)] : List Value).toArray s 0 0 A) (F0 m 2 ls []) := by
    intro k2
    induction k2 with
    | zero => intro x1 m_order H locs ls hq; exact False.elim hq
    | succ k2 ih2 =>
      intro x1 m_order H locs ls hq hP hD hS hl
      unfold q7_become_2 at hq
      refine lv_iload_n hx hb dX7_become_2 rfl (lv_at hl 1 rfl) ?_
      refine lv_aload_n hx hb dX7_become_3 rfl (lv_at hl 0 rfl) ?_
      refine va_get (D := (dC, dI)) (ci := 7) (v := .int m_n) (C := RX7) (T := TX7) (N := 16) hx hb hts uwX7 hown hK hP 0 rfl rfl 0 (by decide) (hts _ fl_X7_7) (fun _ h9 => h9) rfl dX7_become_4 ?_
      refine lv_icmp_ge (tgt := 28) hx hb dX7_become_7 (by decide) (fun c4 => ?_) (fun c4 => ?_)
      · have hq := hq.1 c4
        exact W.vret hx hb hr (fun t ht hW => ⟨⟨m_order, rfl, hq, Bw_mk (by rw [ht]; exact hP) (va_K.moved hW.alike hK) hD⟩, hS.F ht⟩) hS.2.2 dX7_become_28
      · have hq := hq.2 c4
        refine lv_aload_n hx hb dX7_become_10 rfl (lv_at hl 0 rfl) ?_
        refine va_get (D := (dC, dI)) (ci := 7) (v := .ref (ad 1)) (C := RX7) (T := TX7) (N := 16) hx hb hts uwX7 hown hK hP 0 rfl rfl 1 (by decide) (hts _ fl_X7_13) (fun _ h9 => h9) rfl dX7_become_11 ?_
        refine lv_iload_n hx hb dX7_become_14 rfl (lv_at hl 1 rfl) ?_
        refine lv_aload_n hx hb dX7_become_15 rfl (lv_at hl 0 rfl) ?_
        refine va_get (D := (dC, dI)) (ci := 7) (v := .ref (ad 5)) (C := RX7) (T := TX7) (N := 16) hx hb hts uwX7 hown hK hP 0 rfl rfl 6 (by decide) (hts _ fl_X7_29) (fun _ h9 => h9) rfl dX7_become_16 ?_
        refine lv_iload_n hx hb dX7_become_19 rfl (lv_at hl 1 rfl) ?_
        obtain ⟨i5, hq⟩ := hq
        refine va_iald hx hb hK hP 5 0 rfl rfl i5 dX7_become_20 ?_
        obtain ⟨i6, hq⟩ := hq
        refine va_iast hx hb hK hP hD hS 1 0 rfl rfl i6 dX7_become_21 (fun H locs hP hD hS => ?_)
        have hP : va_P (dC, dI) vwCl (wX7 cs ad m_n (upd m_order x1.toNatClampNeg (m_work x1.toNatClampNeg)) m_shelf m_opens m_lists m_listed m_work m_counts m_older m_products m_part m_parts m_ways m_used m_greaterNow m_countNow) H := hP
        have hD : va_D A (wX7 cs ad m_n (upd m_order x1.toNatClampNeg (m_work x1.toNatClampNeg)) m_shelf m_opens m_lists m_listed m_work m_counts m_older m_products m_part m_parts m_ways m_used m_greaterNow m_countNow) := hD
        refine lv_iinc (v := (x1 + (1 : Int32))) (lv' := [(1, .int (x1 + (1 : Int32))), (0, .ref (ad 0))]) hx hb dX7_become_22 hl (k := 1) rfl (by rfl) (by decide) rfl (fun ls hl => ?_)
        refine lv_goto (tgt := 2) hx hb dX7_become_25 (by decide) ?_
        exact ih2 (x1 + (1 : Int32)) (upd m_order x1.toNatClampNeg (m_work x1.toNatClampNeg)) _ _ _ hq hP hD hS (lv_sub hl [1, 0] rfl)
  unfold q7_become at hq
  refine lv_iconst (v := (0 : Int32)) hx hb dX7_become_0 (by decide) ?_
  refine lv_istore_n (lv' := [(1, .int (0 : Int32)), (0, .ref (ad 0))]) hx hb dX7_become_1 rfl hl (by decide) rfl (fun ls hl => ?_)
  obtain ⟨kf, hq⟩ := hq
  exact B2 kf (0 : Int32) m_order _ _ _ hq hP hD hS (lv_sub hl [1, 0] rfl)
set_option maxHeartbeats 4000000 in
set_option maxRecDepth 100000 in
theorem c7_order (l : Launch) (dC : Nat → ClassId) (dI : Nat → Nat → Nat) (cs : Nat → ClassId) (ad : Nat → Nat) (sz : Nat) (m_n : Int32) (m_order : Nat → Int32) (m_shelf : Nat → Int32) (m_opens : Int32) (m_lists : Nat → Int32) (m_listed : Nat → Int32) (m_work : Nat → Int32) (m_counts : Nat → Int64) (m_older : Nat → Int64) (m_products : Nat → Int64) (m_part : Nat → Int32) (m_parts : Int32) (m_ways : Nat → Int64) (m_used : Int32) (m_greaterNow : Int32) (m_countNow : Int32) (a1 : Int64) (a3 : Int64) {Q : Int32 → (Nat → Int32) → (Nat → Int32) → Prop} (hq : q7_order m_n m_order m_work a1 a3 Q) : Met l yX7_order (.code yX7_order cX7_order 11 (some .int) :: gt) ({ frames := 1, cells := 0, slots := 0, locals := 21 } : Room) (va_Pc [.ref (ad 0), .long a1, .long a3] (Pw (dC, dI) (KA cs) (wX7 cs ad m_n m_order m_shelf m_opens m_lists m_listed m_work m_counts m_older m_products m_part m_parts m_ways m_used m_greaterNow m_countNow) sz)) (va_Qi (fun (r : Int32) (u : (Nat → Int32) × (Nat → Int32)) => Q r u.1 u.2) (Bw (dC, dI) (KA cs) (va_A (wX7 cs ad m_n m_order m_shelf m_opens m_lists m_listed m_work m_counts m_older m_products m_part m_parts m_ways m_used m_greaterNow m_countNow) sz) (fun u : (Nat → Int32) × (Nat → Int32) => (wX7 cs ad m_n u.1 m_shelf m_opens m_lists m_listed u.2 m_counts m_older m_products m_part m_parts m_ways m_used m_greaterNow m_countNow))) (va_A (wX7 cs ad m_n m_order m_shelf m_opens m_lists m_listed m_work m_counts m_older m_products m_part m_parts m_ways m_used m_greaterNow m_countNow) sz)) 0 0 (va_A (wX7 cs ad m_n m_order m_shelf m_opens m_lists m_listed m_work m_counts m_older m_products m_part m_parts m_ways m_used m_greaterNow m_countNow) sz) := by
  refine Met.ofW (cc := cX7_order) (maxL := 11) (ret := (some .int)) (by decide) rfl ?_
  intro p e s m args below meth c s₁ B hml hv
  obtain ⟨rfl, hsz, hP, hK, hD0, hN⟩ := hv
  have hx := B.exec
  have hb := B.bytes
  have hr := B.returns
  have hts0 := atoms_spec (ws := (.code yX7_order cX7_order 11 (some .int) :: gt)) B.pre
  have hts : ∀ w ∈ gt, w.before _ s = true := fun w h => hts0 w (List.mem_cons_of_mem _ h)
  have hown : s.vm.findClass RX7 = some m.cls := findClass_of_methodNamed B.named
  have hlocks := B.notSynchronized
  subst hsz
  have hD := hD0.self (sz := s.heap.size)
  generalize hAe : va_A (wX7 cs ad m_n m_order m_shelf m_opens m_lists m_listed m_work m_counts m_older m_products m_part m_parts m_ways m_used m_greaterNow m_countNow) s.heap.size = A at hD ⊢
  have hA : ∀ q : Nat, s.heap.size ≤ q → A q := fun q h => by rw [← hAe]; exact Or.inr h
  have hS : va_S A s.heap s.heap [] := va_S.rf
  have hl := lv_entry ([.ref (ad 0), .long a1, .long a3]) (n := 11) (Nat.le_of_ble_eq_true rfl)
  rw [lg_entry_eq]
  generalize (lg_sl ([.ref (ad 0), .long a1, .long a3]) ++ List.replicate (11 - (lg_sl ([.ref (ad 0), .long a1, .long a3])).length) Slot.unset).toArray = ls at hl ⊢
  have hl : lv_has ls 11 [(0, .ref (ad 0)), (1, .long a1), (3, .long a3)] := hl
  have B126 : ∀ (x5 : Int64) (x7 : Int64) (x9 : Int32) (m_order : Nat → Int32) (m_work : Nat → Int32) (H : Heap) (locs : List Loc) (ls : Array Slot), q7_order_126 m_n Q x5 x7 x9 m_order m_work → va_P (dC, dI) vwCl (wX7 cs ad m_n m_order m_shelf m_opens m_lists m_listed m_work m_counts m_older m_products m_part m_parts m_ways m_used m_greaterNow m_countNow) H → va_D A (wX7 cs ad m_n m_order m_shelf m_opens m_lists m_listed m_work m_counts m_older m_products m_part m_parts m_ways m_used m_greaterNow m_countNow) → va_S A s.heap H locs → lv_has ls 11 [(0, .ref (ad 0)), (5, .long x5), (7, .long x7), (9, .int x9)] → W p l e ({ frames := 1, cells := 0, slots := 0, locals := 21 } : Room) s m ([.ref (ad 0), .long a1, .long a3] : List Value).toArray below meth c H locs 0 0 (MQ below (va_Qi (fun (r : Int32) (u : (Nat → Int32) × (Nat → Int32)) => Q r u.1 u.2) (Bw (dC, dI) (KA cs) A (fun u : (Nat → Int32) × (Nat → Int32) => (wX7 cs ad m_n u.1 m_shelf m_opens m_lists m_listed u.2 m_counts m_older m_products m_part m_parts m_ways m_used m_greaterNow m_countNow))) A) ([.ref (ad 0), .long a1, .long a3] : List Value).toArray s 0 0 A) (F0 m 126 ls []) := by
    intro x5 x7 x9 m_order m_work H locs ls hq hP hD hS hl
    unfold q7_order_126 at hq
    refine lv_lload hx hb dX7_order_126 (lv_at hl 1 rfl) ?_
    refine lv_lconst (v := (0 : Int64)) hx hb dX7_order_128 (by decide) ?_
    refine lc_ne (tgt := 153) hx hb dX7_order_129 dX7_order_130 (by decide) (fun c18 => ?_) (fun c18 => ?_)
    · have hq := hq.1 c18
      refine lv_bipush (v := (-2 : Int32)) hx hb dX7_order_153 (by decide) ?_
      exact W.iret (v := (-2 : Int32)) hx hb hr (fun t ht hW => ⟨⟨(-2 : Int32), (m_order, m_work), rfl, hq, Bw_mk (by rw [ht]; exact hP) (va_K.moved hW.alike hK) hD⟩, hS.F ht⟩) hS.2.2 dX7_order_155
    · have hq := hq.2 c18
      refine lv_lload hx hb dX7_order_133 (lv_at hl 2 rfl) ?_
      refine lv_lconst (v := (0 : Int64)) hx hb dX7_order_135 (by decide) ?_
      refine lc_ne (tgt := 153) hx hb dX7_order_136 dX7_order_137 (by decide) (fun c19 => ?_) (fun c19 => ?_)
      · have hq := hq.1 c19
        refine lv_bipush (v := (-2 : Int32)) hx hb dX7_order_153 (by decide) ?_
        exact W.iret (v := (-2 : Int32)) hx hb hr (fun t ht hW => ⟨⟨(-2 : Int32), (m_order, m_work), rfl, hq, Bw_mk (by rw [ht]; exact hP) (va_K.moved hW.alike hK) hD⟩, hS.F ht⟩) hS.2.2 dX7_order_155
      · have hq := hq.2 c19
        refine lv_iload hx hb dX7_order_140 (lv_at hl 3 rfl) ?_
        refine lv_iconst (v := (1 : Int32)) hx hb dX7_order_142 (by decide) ?_
        refine lv_aload_n hx hb dX7_order_143 rfl (lv_at hl 0 rfl) ?_
        refine va_get (D := (dC, dI)) (ci := 7) (v := .int m_n) (C := RX7) (T := TX7) (N := 16) hx hb hts uwX7 hown hK hP 0 rfl rfl 0 (by decide) (hts _ fl_X7_7) (fun _ h9 => h9) rfl dX7_order_144 ?_
        refine lv_ishl hx hb dX7_order_147 ?_
        refine lv_iconst (v := (1 : Int32)) hx hb dX7_order_148 (by decide) ?_
        refine lv_isub hx hb dX7_order_149 ?_
        refine lv_icmp_eq (tgt := 156) hx hb dX7_order_150 (by decide) (fun c20 => ?_) (fun c20 => ?_)
        · have hq := hq.1 c20
          refine lv_aload_n hx hb dX7_order_156 rfl (lv_at hl 0 rfl) ?_
          refine swv (runV ⟨hx, hb, hml, hown, hts⟩ wf_X7_become ml_X7_57 (c7_become l dC dI cs ad _ m_n m_order m_shelf m_opens m_lists m_listed m_work m_counts m_older m_products m_part m_parts m_ways m_used m_greaterNow m_countNow  hq) ⟨⟨rfl, rfl⟩, by decide, by decide⟩ (preW hP hK hN hD) hK hP rfl 0 rfl rfl hl.1 rfl (Nat.le_of_ble_eq_true rfl) dX7_order_157 ⟨(Nat.le_of_ble_eq_true rfl), (Nat.le_of_ble_eq_true rfl)⟩) hD hS hA (fun  m_order_21 H locs hq hP hD hS => ?_)
          have hP : va_P (dC, dI) vwCl (wX7 cs ad m_n m_order_21 m_shelf m_opens m_lists m_listed m_work m_counts m_older m_products m_part m_parts m_ways m_used m_greaterNow m_countNow) H := hP
          have hD : va_D A (wX7 cs ad m_n m_order_21 m_shelf m_opens m_lists m_listed m_work m_counts m_older m_products m_part m_parts m_ways m_used m_greaterNow m_countNow) := hD
          refine lv_iconst (v := (1 : Int32)) hx hb dX7_order_160 (by decide) ?_
          exact W.iret (v := (1 : Int32)) hx hb hr (fun t ht hW => ⟨⟨(1 : Int32), (m_order_21, m_work), rfl, hq, Bw_mk (by rw [ht]; exact hP) (va_K.moved hW.alike hK) hD⟩, hS.F ht⟩) hS.2.2 dX7_order_161
        · have hq := hq.2 c20
          refine lv_bipush (v := (-2 : Int32)) hx hb dX7_order_153 (by decide) ?_
          exact W.iret (v := (-2 : Int32)) hx hb hr (fun t ht hW => ⟨⟨(-2 : Int32), (m_order, m_work), rfl, hq, Bw_mk (by rw [ht]; exact hP) (va_K.moved hW.alike hK) hD⟩, hS.F ht⟩) hS.2.2 dX7_order_155
  have B27 : ∀ (k27 : Nat) (x5 : Int64) (x7 : Int64) (x9 : Int32) (x10 : Int32) (m_order : Nat → Int32) (m_work : Nat → Int32) (H : Heap) (locs : List Loc) (ls : Array Slot), q7_order_27 m_n Q k27 x5 x7 x9 x10 m_order m_work → va_P (dC, dI) vwCl (wX7 cs ad m_n m_order m_shelf m_opens m_lists m_listed m_work m_counts m_older m_products m_part m_parts m_ways m_used m_greaterNow m_countNow) H → va_D A (wX7 cs ad m_n m_order m_shelf m_opens m_lists m_listed m_work m_counts m_older m_products m_part m_parts m_ways m_used m_greaterNow m_countNow) → va_S A s.heap H locs → lv_has ls 11 [(0, .ref (ad 0)), (5, .long x5), (7, .long x7), (9, .int x9), (10, .int x10)] → W p l e ({ frames := 1, cells := 0, slots := 0, locals := 21 } : Room) s m ([.ref (ad 0), .long a1, .long a3] : List Value).toArray below meth c H locs 0 0 (MQ below (va_Qi (fun (r : Int32) (u : (Nat → Int32) × (Nat → Int32)) => Q r u.1 u.2) (Bw (dC, dI) (KA cs) A (fun u : (Nat → Int32) × (Nat → Int32) => (wX7 cs ad m_n u.1 m_shelf m_opens m_lists m_listed u.2 m_counts m_older m_products m_part m_parts m_ways m_used m_greaterNow m_countNow))) A) ([.ref (ad 0), .long a1, .long a3] : List Value).toArray s 0 0 A) (F0 m 27 ls []) := by
    intro k27
    induction k27 with
    | zero => intro x5 x7 x9 x10 m_order m_work H locs ls hq; exact False.elim hq
    | succ k27 ih27 =>
      intro x5 x7 x9 x10 m_order m_work H locs ls hq hP hD hS hl
      have B104 : ∀ (s0 : Int64) (x5 : Int64) (x9 : Int32) (x10 : Int32) (m_order : Nat → Int32) (m_work : Nat → Int32) (H : Heap) (locs : List Loc) (ls : Array Slot), q7_order_104 m_n (fun v0 v1 v2 v3 v4 v5 => q7_order_27 m_n Q k27 v0 v1 v2 v3 v4 v5) Q s0 x5 x9 x10 m_order m_work → va_P (dC, dI) vwCl (wX7 cs ad m_n m_order m_shelf m_opens m_lists m_listed m_work m_counts m_older m_products m_part m_parts m_ways m_used m_greaterNow m_countNow) H → va_D A (wX7 cs ad m_n m_order m_shelf m_opens m_lists m_listed m_work m_counts m_older m_products m_part m_parts m_ways m_used m_greaterNow m_countNow) → va_S A s.heap H locs → lv_has ls 11 [(0, .ref (ad 0)), (5, .long x5), (9, .int x9), (10, .int x10)] → W p l e ({ frames := 1, cells := 0, slots := 0, locals := 21 } : Room) s m ([.ref (ad 0), .long a1, .long a3] : List Value).toArray below meth c H locs 0 0 (MQ below (va_Qi (fun (r : Int32) (u : (Nat → Int32) × (Nat → Int32)) => Q r u.1 u.2) (Bw (dC, dI) (KA cs) A (fun u : (Nat → Int32) × (Nat → Int32) => (wX7 cs ad m_n u.1 m_shelf m_opens m_lists m_listed u.2 m_counts m_older m_products m_part m_parts m_ways m_used m_greaterNow m_countNow))) A) ([.ref (ad 0), .long a1, .long a3] : List Value).toArray s 0 0 A) (F0 m 104 ls [.long s0]) := by
        intro s0 x5 x9 x10 m_order m_work H locs ls hq hP hD hS hl
        unfold q7_order_104 at hq
        refine lv_lstore (lv' := [(7, .long s0), (0, .ref (ad 0)), (5, .long x5), (9, .int x9), (10, .int x10)]) hx hb dX7_order_104 hl (by decide) rfl (fun ls hl => ?_)
        refine lv_iload hx hb dX7_order_106 (lv_at hl 3 rfl) ?_
        refine lv_iconst (v := (1 : Int32)) hx hb dX7_order_108 (by decide) ?_
        refine lv_aload_n hx hb dX7_order_109 rfl (lv_at hl 1 rfl) ?_
        refine va_get (D := (dC, dI)) (ci := 7) (v := .ref (ad 5)) (C := RX7) (T := TX7) (N := 16) hx hb hts uwX7 hown hK hP 0 rfl rfl 6 (by decide) (hts _ fl_X7_29) (fun _ h9 => h9) rfl dX7_order_110 ?_
        refine lv_iload hx hb dX7_order_113 (lv_at hl 4 rfl) ?_
        obtain ⟨i23, hq⟩ := hq
        refine va_iald hx hb hK hP 5 0 rfl rfl i23 dX7_order_115 ?_
        refine lv_ishl hx hb dX7_order_116 ?_
        refine lv_ior hx hb dX7_order_117 ?_
        refine lv_istore (lv' := [(9, .int (x9 ||| ((1 : Int32) <<< ((m_work x10.toNatClampNeg) &&& 31)))), (7, .long s0), (0, .ref (ad 0)), (5, .long x5), (10, .int x10)]) hx hb dX7_order_118 hl (by decide) rfl (fun ls hl => ?_)
        refine lv_iinc (v := (x10 + (1 : Int32))) (lv' := [(10, .int (x10 + (1 : Int32))), (9, .int (x9 ||| ((1 : Int32) <<< ((m_work x10.toNatClampNeg) &&& 31)))), (7, .long s0), (0, .ref (ad 0)), (5, .long x5)]) hx hb dX7_order_120 hl (k := 4) rfl (by rfl) (by decide) rfl (fun ls hl => ?_)
        refine lv_goto (tgt := 27) hx hb dX7_order_123 (by decide) ?_
        exact ih27 x5 s0 (x9 ||| ((1 : Int32) <<< ((m_work x10.toNatClampNeg) &&& 31))) (x10 + (1 : Int32)) m_order m_work _ _ _ hq hP hD hS (lv_sub hl [3, 4, 2, 1, 0] rfl)
      have B84 : ∀ (s0 : Int64) (x7 : Int64) (x9 : Int32) (x10 : Int32) (m_order : Nat → Int32) (m_work : Nat → Int32) (H : Heap) (locs : List Loc) (ls : Array Slot), q7_order_84 m_n (fun v0 v1 v2 v3 v4 v5 => q7_order_27 m_n Q k27 v0 v1 v2 v3 v4 v5) Q s0 x7 x9 x10 m_order m_work → va_P (dC, dI) vwCl (wX7 cs ad m_n m_order m_shelf m_opens m_lists m_listed m_work m_counts m_older m_products m_part m_parts m_ways m_used m_greaterNow m_countNow) H → va_D A (wX7 cs ad m_n m_order m_shelf m_opens m_lists m_listed m_work m_counts m_older m_products m_part m_parts m_ways m_used m_greaterNow m_countNow) → va_S A s.heap H locs → lv_has ls 11 [(0, .ref (ad 0)), (7, .long x7), (9, .int x9), (10, .int x10)] → W p l e ({ frames := 1, cells := 0, slots := 0, locals := 21 } : Room) s m ([.ref (ad 0), .long a1, .long a3] : List Value).toArray below meth c H locs 0 0 (MQ below (va_Qi (fun (r : Int32) (u : (Nat → Int32) × (Nat → Int32)) => Q r u.1 u.2) (Bw (dC, dI) (KA cs) A (fun u : (Nat → Int32) × (Nat → Int32) => (wX7 cs ad m_n u.1 m_shelf m_opens m_lists m_listed u.2 m_counts m_older m_products m_part m_parts m_ways m_used m_greaterNow m_countNow))) A) ([.ref (ad 0), .long a1, .long a3] : List Value).toArray s 0 0 A) (F0 m 84 ls [.long s0]) := by
        intro s0 x7 x9 x10 m_order m_work H locs ls hq hP hD hS hl
        unfold q7_order_84 at hq
        refine lv_lstore (lv' := [(5, .long s0), (0, .ref (ad 0)), (7, .long x7), (9, .int x9), (10, .int x10)]) hx hb dX7_order_84 hl (by decide) rfl (fun ls hl => ?_)
        refine lv_iload hx hb dX7_order_86 (lv_at hl 4 rfl) ?_
        refine lv_bipush (v := (9 : Int32)) hx hb dX7_order_88 (by decide) ?_
        refine lv_icmp_ge (tgt := 98) hx hb dX7_order_90 (by decide) (fun c24 => ?_) (fun c24 => ?_)
        · have hq := hq.1 c24
          refine lv_lload hx hb dX7_order_98 (lv_at hl 2 rfl) ?_
          refine lv_ldc2 (v := (18 : Int64)) hx hb hown (hts _ kl_X7_55) dX7_order_100 ?_
          obtain ⟨z25, hq⟩ := hq
          refine lv_ldiv hx hb dX7_order_103 z25 ?_
          exact B104 (x7 / (18 : Int64)) s0 x9 x10 m_order m_work _ _ _ hq hP hD hS (lv_sub hl [1, 0, 3, 4] rfl)
        · have hq := hq.2 c24
          refine lv_lload hx hb dX7_order_93 (lv_at hl 2 rfl) ?_
          refine lv_goto (tgt := 104) hx hb dX7_order_95 (by decide) ?_
          exact B104 x7 s0 x9 x10 m_order m_work _ _ _ hq hP hD hS (lv_sub hl [1, 0, 3, 4] rfl)
      have B64 : ∀ (s1 : Int32) (s2 : Int64) (x5 : Int64) (x7 : Int64) (x9 : Int32) (x10 : Int32) (m_order : Nat → Int32) (m_work : Nat → Int32) (H : Heap) (locs : List Loc) (ls : Array Slot), q7_order_64 m_n (fun v0 v1 v2 v3 v4 v5 => q7_order_27 m_n Q k27 v0 v1 v2 v3 v4 v5) Q s1 s2 x5 x7 x9 x10 m_order m_work → va_P (dC, dI) vwCl (wX7 cs ad m_n m_order m_shelf m_opens m_lists m_listed m_work m_counts m_older m_products m_part m_parts m_ways m_used m_greaterNow m_countNow) H → va_D A (wX7 cs ad m_n m_order m_shelf m_opens m_lists m_listed m_work m_counts m_older m_products m_part m_parts m_ways m_used m_greaterNow m_countNow) → va_S A s.heap H locs → lv_has ls 11 [(0, .ref (ad 0)), (5, .long x5), (7, .long x7), (9, .int x9), (10, .int x10)] → W p l e ({ frames := 1, cells := 0, slots := 0, locals := 21 } : Room) s m ([.ref (ad 0), .long a1, .long a3] : List Value).toArray below meth c H locs 0 0 (MQ below (va_Qi (fun (r : Int32) (u : (Nat → Int32) × (Nat → Int32)) => Q r u.1 u.2) (Bw (dC, dI) (KA cs) A (fun u : (Nat → Int32) × (Nat → Int32) => (wX7 cs ad m_n u.1 m_shelf m_opens m_lists m_listed u.2 m_counts m_older m_products m_part m_parts m_ways m_used m_greaterNow m_countNow))) A) ([.ref (ad 0), .long a1, .long a3] : List Value).toArray s 0 0 A) (F0 m 64 ls [.long s2, .int s1, .ref (ad 5)]) := by
        intro s1 s2 x5 x7 x9 x10 m_order m_work H locs ls hq hP hD hS hl
        unfold q7_order_64 at hq
        refine lv_l2i (v := s2.toInt32) hx hb dX7_order_64 rfl ?_
        obtain ⟨i26, hq⟩ := hq
        refine va_iast hx hb hK hP hD hS 5 0 rfl rfl i26 dX7_order_65 (fun H locs hP hD hS => ?_)
        have hP : va_P (dC, dI) vwCl (wX7 cs ad m_n m_order m_shelf m_opens m_lists m_listed (upd m_work s1.toNatClampNeg s2.toInt32) m_counts m_older m_products m_part m_parts m_ways m_used m_greaterNow m_countNow) H := hP
        have hD : va_D A (wX7 cs ad m_n m_order m_shelf m_opens m_lists m_listed (upd m_work s1.toNatClampNeg s2.toInt32) m_counts m_older m_products m_part m_parts m_ways m_used m_greaterNow m_countNow) := hD
        refine lv_iload hx hb dX7_order_66 (lv_at hl 4 rfl) ?_
        refine lv_bipush (v := (9 : Int32)) hx hb dX7_order_68 (by decide) ?_
        refine lv_icmp_ge (tgt := 82) hx hb dX7_order_70 (by decide) (fun c27 => ?_) (fun c27 => ?_)
        · have hq := hq.1 c27
          refine lv_lload hx hb dX7_order_82 (lv_at hl 1 rfl) ?_
          exact B84 x5 x7 x9 x10 m_order (upd m_work s1.toNatClampNeg s2.toInt32) _ _ _ hq hP hD hS (lv_sub hl [0, 2, 3, 4] rfl)
        · have hq := hq.2 c27
          refine lv_lload hx hb dX7_order_73 (lv_at hl 1 rfl) ?_
          refine lv_ldc2 (v := (18 : Int64)) hx hb hown (hts _ kl_X7_55) dX7_order_75 ?_
          obtain ⟨z28, hq⟩ := hq
          refine lv_ldiv hx hb dX7_order_78 z28 ?_
          refine lv_goto (tgt := 84) hx hb dX7_order_79 (by decide) ?_
          exact B84 (x5 / (18 : Int64)) x7 x9 x10 m_order (upd m_work s1.toNatClampNeg s2.toInt32) _ _ _ hq hP hD hS (lv_sub hl [0, 2, 3, 4] rfl)
      unfold q7_order_27 at hq
      refine lv_iload hx hb dX7_order_27 (lv_at hl 4 rfl) ?_
      refine lv_aload_n hx hb dX7_order_29 rfl (lv_at hl 0 rfl) ?_
      refine va_get (D := (dC, dI)) (ci := 7) (v := .int m_n) (C := RX7) (T := TX7) (N := 16) hx hb hts uwX7 hown hK hP 0 rfl rfl 0 (by decide) (hts _ fl_X7_7) (fun _ h9 => h9) rfl dX7_order_30 ?_
      refine lv_icmp_ge (tgt := 126) hx hb dX7_order_33 (by decide) (fun c29 => ?_) (fun c29 => ?_)
      · have hq := hq.1 c29
        exact B126 x5 x7 x9 m_order m_work _ _ _ hq hP hD hS (lv_sub hl [0, 1, 2, 3] rfl)
      · have hq := hq.2 c29
        refine lv_aload_n hx hb dX7_order_36 rfl (lv_at hl 0 rfl) ?_
        refine va_get (D := (dC, dI)) (ci := 7) (v := .ref (ad 5)) (C := RX7) (T := TX7) (N := 16) hx hb hts uwX7 hown hK hP 0 rfl rfl 6 (by decide) (hts _ fl_X7_29) (fun _ h9 => h9) rfl dX7_order_37 ?_
        refine lv_iload hx hb dX7_order_40 (lv_at hl 4 rfl) ?_
        refine lv_iload hx hb dX7_order_42 (lv_at hl 4 rfl) ?_
        refine lv_bipush (v := (9 : Int32)) hx hb dX7_order_44 (by decide) ?_
        refine lv_icmp_ge (tgt := 58) hx hb dX7_order_46 (by decide) (fun c30 => ?_) (fun c30 => ?_)
        · have hq := hq.1 c30
          refine lv_lload hx hb dX7_order_58 (lv_at hl 2 rfl) ?_
          refine lv_ldc2 (v := (18 : Int64)) hx hb hown (hts _ kl_X7_55) dX7_order_60 ?_
          obtain ⟨z31, hq⟩ := hq
          refine lv_lrem hx hb dX7_order_63 z31 ?_
          exact B64 x10 (x7 - x7 / (18 : Int64) * (18 : Int64)) x5 x7 x9 x10 m_order m_work _ _ _ hq hP hD hS (lv_sub hl [0, 1, 2, 3, 4] rfl)
        · have hq := hq.2 c30
          refine lv_lload hx hb dX7_order_49 (lv_at hl 1 rfl) ?_
          refine lv_ldc2 (v := (18 : Int64)) hx hb hown (hts _ kl_X7_55) dX7_order_51 ?_
          obtain ⟨z32, hq⟩ := hq
          refine lv_lrem hx hb dX7_order_54 z32 ?_
          refine lv_goto (tgt := 64) hx hb dX7_order_55 (by decide) ?_
          exact B64 x10 (x5 - x5 / (18 : Int64) * (18 : Int64)) x5 x7 x9 x10 m_order m_work _ _ _ hq hP hD hS (lv_sub hl [0, 1, 2, 3, 4] rfl)
  unfold q7_order at hq
  refine lv_lload_n hx hb dX7_order_0 rfl (lv_at hl 1 rfl) ?_
  refine lv_lconst (v := (0 : Int64)) hx hb dX7_order_1 (by decide) ?_
  refine lc_lt (tgt := 12) hx hb dX7_order_2 dX7_order_3 (by decide) (fun c33 => ?_) (fun c33 => ?_)
  · have hq := hq.1 c33
    refine lv_bipush (v := (-2 : Int32)) hx hb dX7_order_12 (by decide) ?_
    exact W.iret (v := (-2 : Int32)) hx hb hr (fun t ht hW => ⟨⟨(-2 : Int32), (m_order, m_work), rfl, hq, Bw_mk (by rw [ht]; exact hP) (va_K.moved hW.alike hK) hD⟩, hS.F ht⟩) hS.2.2 dX7_order_14
  · have hq := hq.2 c33
    refine lv_lload_n hx hb dX7_order_6 rfl (lv_at hl 2 rfl) ?_
    refine lv_lconst (v := (0 : Int64)) hx hb dX7_order_7 (by decide) ?_
    refine lc_ge (tgt := 15) hx hb dX7_order_8 dX7_order_9 (by decide) (fun c34 => ?_) (fun c34 => ?_)
    · have hq := hq.1 c34
      refine lv_lload_n hx hb dX7_order_15 rfl (lv_at hl 1 rfl) ?_
      refine lv_lstore (lv' := [(5, .long a1), (0, .ref (ad 0)), (1, .long a1), (3, .long a3)]) hx hb dX7_order_16 hl (by decide) rfl (fun ls hl => ?_)
      refine lv_lload_n hx hb dX7_order_18 rfl (lv_at hl 3 rfl) ?_
      refine lv_lstore (lv' := [(7, .long a3), (5, .long a1), (0, .ref (ad 0)), (1, .long a1), (3, .long a3)]) hx hb dX7_order_19 hl (by decide) rfl (fun ls hl => ?_)
      refine lv_iconst (v := (0 : Int32)) hx hb dX7_order_21 (by decide) ?_
      refine lv_istore (lv' := [(9, .int (0 : Int32)), (7, .long a3), (5, .long a1), (0, .ref (ad 0)), (1, .long a1), (3, .long a3)]) hx hb dX7_order_22 hl (by decide) rfl (fun ls hl => ?_)
      refine lv_iconst (v := (0 : Int32)) hx hb dX7_order_24 (by decide) ?_
      refine lv_istore (lv' := [(10, .int (0 : Int32)), (9, .int (0 : Int32)), (7, .long a3), (5, .long a1), (0, .ref (ad 0)), (1, .long a1), (3, .long a3)]) hx hb dX7_order_25 hl (by decide) rfl (fun ls hl => ?_)
      obtain ⟨kf, hq⟩ := hq
      exact B27 kf a1 a3 (0 : Int32) (0 : Int32) m_order m_work _ _ _ hq hP hD hS (lv_sub hl [4, 3, 2, 1, 0] rfl)
    · have hq := hq.2 c34
      refine lv_bipush (v := (-2 : Int32)) hx hb dX7_order_12 (by decide) ?_
      exact W.iret (v := (-2 : Int32)) hx hb hr (fun t ht hW => ⟨⟨(-2 : Int32), (m_order, m_work), rfl, hq, Bw_mk (by rw [ht]; exact hP) (va_K.moved hW.alike hK) hD⟩, hS.F ht⟩) hS.2.2 dX7_order_14
set_option maxHeartbeats 4000000 in
set_option maxRecDepth 100000 in
theorem c7_at (l : Launch) (dC : Nat → ClassId) (dI : Nat → Nat → Nat) (cs : Nat → ClassId) (ad : Nat → Nat) (m_n : Int32) (m_order : Nat → Int32) (m_shelf : Nat → Int32) (m_opens : Int32) (m_lists : Nat → Int32) (m_listed : Nat → Int32) (m_work : Nat → Int32) (m_counts : Nat → Int64) (m_older : Nat → Int64) (m_products : Nat → Int64) (m_part : Nat → Int32) (m_parts : Int32) (m_ways : Nat → Int64) (m_used : Int32) (m_greaterNow : Int32) (m_countNow : Int32) (a1 : Int32) {Q : Int32 → Prop} (hq : q7_at m_n m_order a1 Q) : Met l yX7_at (.code yX7_at cX7_at 2 (some .int) :: gt) ({ frames := 2, cells := 0, slots := 0, locals := 46 } : Room) (va_Pc [.ref (ad 0), .int a1] (Pr (dC, dI) (KA cs) (wX7 cs ad m_n m_order m_shelf m_opens m_lists m_listed m_work m_counts m_older m_products m_part m_parts m_ways m_used m_greaterNow m_countNow))) (vp_Si Q) 0 0 (fun _ => False) := by
  refine Met.ofW (cc := cX7_at) (maxL := 2) (ret := (some .int)) (by decide) rfl ?_
  intro p e s m args below meth c s₁ B hml hv
  obtain ⟨rfl, hP, hK, hN⟩ := hv
  have hx := B.exec
  have hb := B.bytes
  have hr := B.returns
  have hts0 := atoms_spec (ws := (.code yX7_at cX7_at 2 (some .int) :: gt)) B.pre
  have hts : ∀ w ∈ gt, w.before _ s = true := fun w h => hts0 w (List.mem_cons_of_mem _ h)
  have hown : s.vm.findClass RX7 = some m.cls := findClass_of_methodNamed B.named
  have hlocks := B.notSynchronized
  have hl := lv_entry ([.ref (ad 0), .int a1]) (n := 2) (Nat.le_of_ble_eq_true rfl)
  rw [lg_entry_eq]
  generalize (lg_sl ([.ref (ad 0), .int a1]) ++ List.replicate (2 - (lg_sl ([.ref (ad 0), .int a1])).length) Slot.unset).toArray = ls at hl ⊢
  have hl : lv_has ls 2 [(0, .ref (ad 0)), (1, .int a1)] := hl
  unfold q7_at at hq
  refine lv_aload_n hx hb dX7_at_0 rfl (lv_at hl 0 rfl) ?_
  refine lv_iload_n hx hb dX7_at_1 rfl (lv_at hl 1 rfl) ?_
  refine roi (runV ⟨hx, hb, hml, hown, hts⟩ wf_X7_isThing ml_X7_60 (c7_isThing l dC dI cs ad m_n m_order m_shelf m_opens m_lists m_listed m_work m_counts m_older m_products m_part m_parts m_ways m_used m_greaterNow m_countNow a1 hq) ⟨⟨rfl, rfl⟩, by decide, by decide⟩ (preR hP hK hN) hK hP rfl 0 rfl rfl hl.1 rfl (Nat.le_of_ble_eq_true rfl) dX7_at_2 ⟨(Nat.le_of_ble_eq_true rfl), (Nat.le_of_ble_eq_true rfl)⟩) (fun r4 hq => ?_)
  refine lv_if_eq (tgt := 17) hx hb dX7_at_5 (by decide) (fun c5 => ?_) (fun c5 => ?_)
  · have hq := hq.1 c5
    refine lv_bipush (v := (-2 : Int32)) hx hb dX7_at_17 (by decide) ?_
    exact W.iret (v := (-2 : Int32)) hx hb hr (fun t ht hW => ⟨(-2 : Int32), rfl, hq, ht⟩) (fun q h => absurd h List.not_mem_nil) dX7_at_19
  · have hq := hq.2 c5
    refine lv_aload_n hx hb dX7_at_8 rfl (lv_at hl 0 rfl) ?_
    refine va_get (D := (dC, dI)) (ci := 7) (v := .ref (ad 1)) (C := RX7) (T := TX7) (N := 16) hx hb hts uwX7 hown hK hP 0 rfl rfl 1 (by decide) (hts _ fl_X7_13) (fun _ h9 => h9) rfl dX7_at_9 ?_
    refine lv_iload_n hx hb dX7_at_12 rfl (lv_at hl 1 rfl) ?_
    obtain ⟨i6, hq⟩ := hq
    refine va_iald hx hb hK hP 1 0 rfl rfl i6 dX7_at_13 ?_
    refine lv_goto (tgt := 19) hx hb dX7_at_14 (by decide) ?_
    exact W.iret (v := (m_order a1.toNatClampNeg)) hx hb hr (fun t ht hW => ⟨(m_order a1.toNatClampNeg), rfl, hq, ht⟩) (fun q h => absurd h List.not_mem_nil) dX7_at_19
set_option maxHeartbeats 4000000 in
set_option maxRecDepth 100000 in
theorem c7_swap (l : Launch) (dC : Nat → ClassId) (dI : Nat → Nat → Nat) (cs : Nat → ClassId) (ad : Nat → Nat) (sz : Nat) (m_n : Int32) (m_order : Nat → Int32) (m_shelf : Nat → Int32) (m_opens : Int32) (m_lists : Nat → Int32) (m_listed : Nat → Int32) (m_work : Nat → Int32) (m_counts : Nat → Int64) (m_older : Nat → Int64) (m_products : Nat → Int64) (m_part : Nat → Int32) (m_parts : Int32) (m_ways : Nat → Int64) (m_used : Int32) (m_greaterNow : Int32) (m_countNow : Int32) (a1 : Int32) (a2 : Int32) {Q : Int32 → (Nat → Int32) → Prop} (hq : q7_swap m_n m_order a1 a2 Q) : Met l yX7_swap (.code yX7_swap cX7_swap 4 (some .int) :: gt) ({ frames := 2, cells := 0, slots := 0, locals := 46 } : Room) (va_Pc [.ref (ad 0), .int a1, .int a2] (Pw (dC, dI) (KA cs) (wX7 cs ad m_n m_order m_shelf m_opens m_lists m_listed m_work m_counts m_older m_products m_part m_parts m_ways m_used m_greaterNow m_countNow) sz)) (va_Qi (fun (r : Int32) (u : (Nat → Int32)) => Q r u) (Bw (dC, dI) (KA cs) (va_A (wX7 cs ad m_n m_order m_shelf m_opens m_lists m_listed m_work m_counts m_older m_products m_part m_parts m_ways m_used m_greaterNow m_countNow) sz) (fun u : (Nat → Int32) => (wX7 cs ad m_n u m_shelf m_opens m_lists m_listed m_work m_counts m_older m_products m_part m_parts m_ways m_used m_greaterNow m_countNow))) (va_A (wX7 cs ad m_n m_order m_shelf m_opens m_lists m_listed m_work m_counts m_older m_products m_part m_parts m_ways m_used m_greaterNow m_countNow) sz)) 0 0 (va_A (wX7 cs ad m_n m_order m_shelf m_opens m_lists m_listed m_work m_counts m_older m_products m_part m_parts m_ways m_used m_greaterNow m_countNow) sz) := by
  refine Met.ofW (cc := cX7_swap) (maxL := 4) (ret := (some .int)) (by decide) rfl ?_
  intro p e s m args below meth c s₁ B hml hv
  obtain ⟨rfl, hsz, hP, hK, hD0, hN⟩ := hv
  have hx := B.exec
  have hb := B.bytes
  have hr := B.returns
  have hts0 := atoms_spec (ws := (.code yX7_swap cX7_swap 4 (some .int) :: gt)) B.pre
  have hts : ∀ w ∈ gt, w.before _ s = true := fun w h => hts0 w (List.mem_cons_of_mem _ h)
  have hown : s.vm.findClass RX7 = some m.cls := findClass_of_methodNamed B.named
  have hlocks := B.notSynchronized
  subst hsz
  have hD := hD0.self (sz := s.heap.size)
  generalize hAe : va_A (wX7 cs ad m_n m_order m_shelf m_opens m_lists m_listed m_work m_counts m_older m_products m_part m_parts m_ways m_used m_greaterNow m_countNow) s.heap.size = A at hD ⊢
  have hA : ∀ q : Nat, s.heap.size ≤ q → A q := fun q h => by rw [← hAe]; exact Or.inr h
  have hS : va_S A s.heap s.heap [] := va_S.rf
  have hl := lv_entry ([.ref (ad 0), .int a1, .int a2]) (n := 4) (Nat.le_of_ble_eq_true rfl)
  rw [lg_entry_eq]
  generalize (lg_sl ([.ref (ad 0), .int a1, .int a2]) ++ List.replicate (4 - (lg_sl ([.ref (ad 0), .int a1, .int a2])).length) Slot.unset).toArray = ls at hl ⊢
  have hl : lv_has ls 4 [(0, .ref (ad 0)), (1, .int a1), (2, .int a2)] := hl
  unfold q7_swap at hq
  refine lv_aload_n hx hb dX7_swap_0 rfl (lv_at hl 0 rfl) ?_
  refine lv_iload_n hx hb dX7_swap_1 rfl (lv_at hl 1 rfl) ?_
  refine roi (runV ⟨hx, hb, hml, hown, hts⟩ wf_X7_isThing ml_X7_60 (c7_isThing l dC dI cs ad m_n m_order m_shelf m_opens m_lists m_listed m_work m_counts m_older m_products m_part m_parts m_ways m_used m_greaterNow m_countNow a1 hq) ⟨⟨rfl, rfl⟩, by decide, by decide⟩ (preR hP hK hN) hK hP rfl 0 rfl rfl hl.1 rfl (Nat.le_of_ble_eq_true rfl) dX7_swap_2 ⟨(Nat.le_of_ble_eq_true rfl), (Nat.le_of_ble_eq_true rfl)⟩) (fun r9 hq => ?_)
  refine lv_if_eq (tgt := 16) hx hb dX7_swap_5 (by decide) (fun c10 => ?_) (fun c10 => ?_)
  · have hq := hq.1 c10
    refine lv_bipush (v := (-2 : Int32)) hx hb dX7_swap_16 (by decide) ?_
    exact W.iret (v := (-2 : Int32)) hx hb hr (fun t ht hW => ⟨⟨(-2 : Int32), m_order, rfl, hq, Bw_mk (by rw [ht]; exact hP) (va_K.moved hW.alike hK) hD⟩, hS.F ht⟩) hS.2.2 dX7_swap_18
  · have hq := hq.2 c10
    refine lv_aload_n hx hb dX7_swap_8 rfl (lv_at hl 0 rfl) ?_
    refine lv_iload_n hx hb dX7_swap_9 rfl (lv_at hl 2 rfl) ?_
    refine roi (runV ⟨hx, hb, hml, hown, hts⟩ wf_X7_isThing ml_X7_60 (c7_isThing l dC dI cs ad m_n m_order m_shelf m_opens m_lists m_listed m_work m_counts m_older m_products m_part m_parts m_ways m_used m_greaterNow m_countNow a2 hq) ⟨⟨rfl, rfl⟩, by decide, by decide⟩ (preR hP hK hN) hK hP rfl 0 rfl rfl hl.1 rfl (Nat.le_of_ble_eq_true rfl) dX7_swap_10 ⟨(Nat.le_of_ble_eq_true rfl), (Nat.le_of_ble_eq_true rfl)⟩) (fun r11 hq => ?_)
    refine lv_if_ne (tgt := 19) hx hb dX7_swap_13 (by decide) (fun c12 => ?_) (fun c12 => ?_)
    · have hq := hq.1 c12
      refine lv_aload_n hx hb dX7_swap_19 rfl (lv_at hl 0 rfl) ?_
      refine va_get (D := (dC, dI)) (ci := 7) (v := .ref (ad 1)) (C := RX7) (T := TX7) (N := 16) hx hb hts uwX7 hown hK hP 0 rfl rfl 1 (by decide) (hts _ fl_X7_13) (fun _ h9 => h9) rfl dX7_swap_20 ?_
      refine lv_iload_n hx hb dX7_swap_23 rfl (lv_at hl 1 rfl) ?_
      obtain ⟨i13, hq⟩ := hq
      refine va_iald hx hb hK hP 1 0 rfl rfl i13 dX7_swap_24 ?_
      refine lv_istore_n (lv' := [(3, .int (m_order a1.toNatClampNeg)), (0, .ref (ad 0)), (1, .int a1), (2, .int a2)]) hx hb dX7_swap_25 rfl hl (by decide) rfl (fun ls hl => ?_)
      refine lv_aload_n hx hb dX7_swap_26 rfl (lv_at hl 1 rfl) ?_
      refine va_get (D := (dC, dI)) (ci := 7) (v := .ref (ad 1)) (C := RX7) (T := TX7) (N := 16) hx hb hts uwX7 hown hK hP 0 rfl rfl 1 (by decide) (hts _ fl_X7_13) (fun _ h9 => h9) rfl dX7_swap_27 ?_
      refine lv_iload_n hx hb dX7_swap_30 rfl (lv_at hl 2 rfl) ?_
      refine lv_aload_n hx hb dX7_swap_31 rfl (lv_at hl 1 rfl) ?_
      refine va_get (D := (dC, dI)) (ci := 7) (v := .ref (ad 1)) (C := RX7) (T := TX7) (N := 16) hx hb hts uwX7 hown hK hP 0 rfl rfl 1 (by decide) (hts _ fl_X7_13) (fun _ h9 => h9) rfl dX7_swap_32 ?_
      refine lv_iload_n hx hb dX7_swap_35 rfl (lv_at hl 3 rfl) ?_
      obtain ⟨i14, hq⟩ := hq
      refine va_iald hx hb hK hP 1 0 rfl rfl i14 dX7_swap_36 ?_
      obtain ⟨i15, hq⟩ := hq
      refine va_iast hx hb hK hP hD hS 1 0 rfl rfl i15 dX7_swap_37 (fun H locs hP hD hS => ?_)
      have hP : va_P (dC, dI) vwCl (wX7 cs ad m_n (upd m_order a1.toNatClampNeg (m_order a2.toNatClampNeg)) m_shelf m_opens m_lists m_listed m_work m_counts m_older m_products m_part m_parts m_ways m_used m_greaterNow m_countNow) H := hP
      have hD : va_D A (wX7 cs ad m_n (upd m_order a1.toNatClampNeg (m_order a2.toNatClampNeg)) m_shelf m_opens m_lists m_listed m_work m_counts m_older m_products m_part m_parts m_ways m_used m_greaterNow m_countNow) := hD
      refine lv_aload_n hx hb dX7_swap_38 rfl (lv_at hl 1 rfl) ?_
      refine va_get (D := (dC, dI)) (ci := 7) (v := .ref (ad 1)) (C := RX7) (T := TX7) (N := 16) hx hb hts uwX7 hown hK hP 0 rfl rfl 1 (by decide) (hts _ fl_X7_13) (fun _ h9 => h9) rfl dX7_swap_39 ?_
      refine lv_iload_n hx hb dX7_swap_42 rfl (lv_at hl 3 rfl) ?_
      refine lv_iload_n hx hb dX7_swap_43 rfl (lv_at hl 0 rfl) ?_
      obtain ⟨i16, hq⟩ := hq
      refine va_iast hx hb hK hP hD hS 1 0 rfl rfl i16 dX7_swap_44 (fun H locs hP hD hS => ?_)
      have hP : va_P (dC, dI) vwCl (wX7 cs ad m_n (upd (upd m_order a1.toNatClampNeg (m_order a2.toNatClampNeg)) a2.toNatClampNeg (m_order a1.toNatClampNeg)) m_shelf m_opens m_lists m_listed m_work m_counts m_older m_products m_part m_parts m_ways m_used m_greaterNow m_countNow) H := hP
      have hD : va_D A (wX7 cs ad m_n (upd (upd m_order a1.toNatClampNeg (m_order a2.toNatClampNeg)) a2.toNatClampNeg (m_order a1.toNatClampNeg)) m_shelf m_opens m_lists m_listed m_work m_counts m_older m_products m_part m_parts m_ways m_used m_greaterNow m_countNow) := hD
      refine lv_iconst (v := (1 : Int32)) hx hb dX7_swap_45 (by decide) ?_
      exact W.iret (v := (1 : Int32)) hx hb hr (fun t ht hW => ⟨⟨(1 : Int32), (upd (upd m_order a1.toNatClampNeg (m_order a2.toNatClampNeg)) a2.toNatClampNeg (m_order a1.toNatClampNeg)), rfl, hq, Bw_mk (by rw [ht]; exact hP) (va_K.moved hW.alike hK) hD⟩, hS.F ht⟩) hS.2.2 dX7_swap_46
    · have hq := hq.2 c12
      refine lv_bipush (v := (-2 : Int32)) hx hb dX7_swap_16 (by decide) ?_
      exact W.iret (v := (-2 : Int32)) hx hb hr (fun t ht hW => ⟨⟨(-2 : Int32), m_order, rfl, hq, Bw_mk (by rw [ht]; exact hP) (va_K.moved hW.alike hK) hD⟩, hS.F ht⟩) hS.2.2 dX7_swap_18
set_option maxHeartbeats 4000000 in
set_option maxRecDepth 100000 in
theorem c7_lay (l : Launch) (dC : Nat → ClassId) (dI : Nat → Nat → Nat) (cs : Nat → ClassId) (ad : Nat → Nat) (sz : Nat) (m_n : Int32) (m_order : Nat → Int32) (m_shelf : Nat → Int32) (m_opens : Int32) (m_lists : Nat → Int32) (m_listed : Nat → Int32) (m_work : Nat → Int32) (m_counts : Nat → Int64) (m_older : Nat → Int64) (m_products : Nat → Int64) (m_part : Nat → Int32) (m_parts : Int32) (m_ways : Nat → Int64) (m_used : Int32) (m_greaterNow : Int32) (m_countNow : Int32) (a1 : Int32) {Q : Int32 → (Nat → Int32) → Prop} (hq : q7_lay m_n m_order m_shelf a1 Q) : Met l yX7_lay (.code yX7_lay cX7_lay 3 (some .int) :: gt) ({ frames := 1, cells := 0, slots := 0, locals := 25 } : Room) (va_Pc [.ref (ad 0), .int a1] (Pw (dC, dI) (KA cs) (wX7 cs ad m_n m_order m_shelf m_opens m_lists m_listed m_work m_counts m_older m_products m_part m_parts m_ways m_used m_greaterNow m_countNow) sz)) (va_Qi (fun (r : Int32) (u : (Nat → Int32)) => Q r u) (Bw (dC, dI) (KA cs) (va_A (wX7 cs ad m_n m_order m_shelf m_opens m_lists m_listed m_work m_counts m_older m_products m_part m_parts m_ways m_used m_greaterNow m_countNow) sz) (fun u : (Nat → Int32) => (wX7 cs ad m_n m_order u m_opens m_lists m_listed m_work m_counts m_older m_products m_part m_parts m_ways m_used m_greaterNow m_countNow))) (va_A (wX7 cs ad m_n m_order m_shelf m_opens m_lists m_listed m_work m_counts m_older m_products m_part m_parts m_ways m_used m_greaterNow m_countNow) sz)) 0 0 (va_A (wX7 cs ad m_n m_order m_shelf m_opens m_lists m_listed m_work m_counts m_older m_products m_part m_parts m_ways m_used m_greaterNow m_countNow) sz) := by
  refine Met.ofW (cc := cX7_lay) (maxL := 3) (ret := (some .int)) (by decide) rfl ?_
  intro p e s m args below meth c s₁ B hml hv
  obtain ⟨rfl, hsz, hP, hK, hD0, hN⟩ := hv
  have hx := B.exec
  have hb := B.bytes
  have hr := B.returns
  have hts0 := atoms_spec (ws := (.code yX7_lay cX7_lay 3 (some .int) :: gt)) B.pre
  have hts : ∀ w ∈ gt, w.before _ s = true := fun w h => hts0 w (List.mem_cons_of_mem _ h)
  have hown : s.vm.findClass RX7 = some m.cls := findClass_of_methodNamed B.named
  have hlocks := B.notSynchronized
  subst hsz
  have hD := hD0.self (sz := s.heap.size)
  generalize hAe : va_A (wX7 cs ad m_n m_order m_shelf m_opens m_lists m_listed m_work m_counts m_older m_products m_part m_parts m_ways m_used m_greaterNow m_countNow) s.heap.size = A at hD ⊢
  have hA : ∀ q : Nat, s.heap.size ≤ q → A q := fun q h => by rw [← hAe]; exact Or.inr h
  have hS : va_S A s.heap s.heap [] := va_S.rf
  have hl := lv_entry ([.ref (ad 0), .int a1]) (n := 3) (Nat.le_of_ble_eq_true rfl)
  rw [lg_entry_eq]
  generalize (lg_sl ([.ref (ad 0), .int a1]) ++ List.replicate (3 - (lg_sl ([.ref (ad 0), .int a1])).length) Slot.unset).toArray = ls at hl ⊢
  have hl : lv_has ls 3 [(0, .ref (ad 0)), (1, .int a1)] := hl
  have B17 : ∀ (k17 : Nat) (x1 : Int32) (x2 : Int32) (m_shelf : Nat → Int32) (H : Heap) (locs : List Loc) (ls : Array Slot), q7_lay_17 m_n m_order Q k17 x1 x2 m_shelf → va_P (dC, dI) vwCl (wX7 cs ad m_n m_order m_shelf m_opens m_lists m_listed m_work m_counts m_older m_products m_part m_parts m_ways m_used m_greaterNow m_countNow) H → va_D A (wX7 cs ad m_n m_order m_shelf m_opens m_lists m_listed m_work m_counts m_older m_products m_part m_parts m_ways m_used m_greaterNow m_countNow) → va_S A s.heap H locs → lv_has ls 3 [(0, .ref (ad 0)), (1, .int x1), (2, .int x2)] → W p l e ({ frames := 1, cells := 0, slots := 0, locals := 25 } : Room) s m ([.ref (ad 0), .int a1] : List Value).toArray below meth c H locs 0 0 (MQ below (va_Qi (fun (r : Int32) (u : (Nat → Int32)) => Q r u) (Bw (dC, dI) (KA cs) A (fun u : (Nat → Int32) => (wX7 cs ad m_n m_order u m_opens m_lists m_listed m_work m_counts m_older m_products m_part m_parts m_ways m_used m_greaterNow m_countNow))) A) ([.ref (ad 0), .int a1] : List Value).toArray s 0 0 A) (F0 m 17 ls []) := by
    intro k17
    induction k17 with
    | zero => intro x1 x2 m_shelf H locs ls hq; exact False.elim hq
    | succ k17 ih17 =>
      intro x1 x2 m_shelf H locs ls hq hP hD hS hl
      unfold q7_lay_17 at hq
      refine lv_iload_n hx hb dX7_lay_17 rfl (lv_at hl 2 rfl) ?_
      refine lv_aload_n hx hb dX7_lay_18 rfl (lv_at hl 0 rfl) ?_
      refine va_get (D := (dC, dI)) (ci := 7) (v := .int m_n) (C := RX7) (T := TX7) (N := 16) hx hb hts uwX7 hown hK hP 0 rfl rfl 0 (by decide) (hts _ fl_X7_7) (fun _ h9 => h9) rfl dX7_lay_19 ?_
      refine lv_icmp_ge (tgt := 48) hx hb dX7_lay_22 (by decide) (fun c6 => ?_) (fun c6 => ?_)
      · have hq := hq.1 c6
        refine lv_iconst (v := (1 : Int32)) hx hb dX7_lay_48 (by decide) ?_
        exact W.iret (v := (1 : Int32)) hx hb hr (fun t ht hW => ⟨⟨(1 : Int32), m_shelf, rfl, hq, Bw_mk (by rw [ht]; exact hP) (va_K.moved hW.alike hK) hD⟩, hS.F ht⟩) hS.2.2 dX7_lay_49
      · have hq := hq.2 c6
        refine lv_aload_n hx hb dX7_lay_25 rfl (lv_at hl 0 rfl) ?_
        refine va_get (D := (dC, dI)) (ci := 7) (v := .ref (ad 2)) (C := RX7) (T := TX7) (N := 16) hx hb hts uwX7 hown hK hP 0 rfl rfl 2 (by decide) (hts _ fl_X7_17) (fun _ h9 => h9) rfl dX7_lay_26 ?_
        refine lv_bipush (v := (18 : Int32)) hx hb dX7_lay_29 (by decide) ?_
        refine lv_iload_n hx hb dX7_lay_31 rfl (lv_at hl 1 rfl) ?_
        refine lv_imul hx hb dX7_lay_32 ?_
        refine lv_iload_n hx hb dX7_lay_33 rfl (lv_at hl 2 rfl) ?_
        refine lv_iadd hx hb dX7_lay_34 ?_
        refine lv_aload_n hx hb dX7_lay_35 rfl (lv_at hl 0 rfl) ?_
        refine va_get (D := (dC, dI)) (ci := 7) (v := .ref (ad 1)) (C := RX7) (T := TX7) (N := 16) hx hb hts uwX7 hown hK hP 0 rfl rfl 1 (by decide) (hts _ fl_X7_13) (fun _ h9 => h9) rfl dX7_lay_36 ?_
        refine lv_iload_n hx hb dX7_lay_39 rfl (lv_at hl 2 rfl) ?_
        obtain ⟨i7, hq⟩ := hq
        refine va_iald hx hb hK hP 1 0 rfl rfl i7 dX7_lay_40 ?_
        obtain ⟨i8, hq⟩ := hq
        refine va_iast hx hb hK hP hD hS 2 0 rfl rfl i8 dX7_lay_41 (fun H locs hP hD hS => ?_)
        have hP : va_P (dC, dI) vwCl (wX7 cs ad m_n m_order (upd m_shelf (((18 : Int32) * x1) + x2).toNatClampNeg (m_order x2.toNatClampNeg)) m_opens m_lists m_listed m_work m_counts m_older m_products m_part m_parts m_ways m_used m_greaterNow m_countNow) H := hP
        have hD : va_D A (wX7 cs ad m_n m_order (upd m_shelf (((18 : Int32) * x1) + x2).toNatClampNeg (m_order x2.toNatClampNeg)) m_opens m_lists m_listed m_work m_counts m_older m_products m_part m_parts m_ways m_used m_greaterNow m_countNow) := hD
        refine lv_iinc (v := (x2 + (1 : Int32))) (lv' := [(2, .int (x2 + (1 : Int32))), (0, .ref (ad 0)), (1, .int x1)]) hx hb dX7_lay_42 hl (k := 2) rfl (by rfl) (by decide) rfl (fun ls hl => ?_)
        refine lv_goto (tgt := 17) hx hb dX7_lay_45 (by decide) ?_
        exact ih17 x1 (x2 + (1 : Int32)) (upd m_shelf (((18 : Int32) * x1) + x2).toNatClampNeg (m_order x2.toNatClampNeg)) _ _ _ hq hP hD hS (lv_sub hl [1, 2, 0] rfl)
  unfold q7_lay at hq
  refine lv_iload_n hx hb dX7_lay_0 rfl (lv_at hl 1 rfl) ?_
  refine lv_i2l (v := a1.toInt64) hx hb dX7_lay_1 rfl ?_
  refine lv_lconst (v := (0 : Int64)) hx hb dX7_lay_2 (by decide) ?_
  refine lv_ldc2 (v := (3 : Int64)) hx hb hown (hts _ kl_X7_64) dX7_lay_3 ?_
  refine roi (runS ⟨hx, hb, hml, hown, hts⟩ ws_X7_in ml_X7_51 (c7_in l dC dI cs   a1.toInt64 (0 : Int64) (3 : Int64) hq) ⟨⟨rfl, rfl⟩, by decide, by decide⟩ (preR va_P_nil hK hN) hN rfl hl.1 rfl (Nat.le_of_ble_eq_true rfl) dX7_lay_6 ⟨(Nat.le_of_ble_eq_true rfl), (Nat.le_of_ble_eq_true rfl)⟩) (fun r9 hq => ?_)
  refine lv_if_ne (tgt := 15) hx hb dX7_lay_9 (by decide) (fun c10 => ?_) (fun c10 => ?_)
  · have hq := hq.1 c10
    refine lv_iconst (v := (0 : Int32)) hx hb dX7_lay_15 (by decide) ?_
    refine lv_istore_n (lv' := [(2, .int (0 : Int32)), (0, .ref (ad 0)), (1, .int a1)]) hx hb dX7_lay_16 rfl hl (by decide) rfl (fun ls hl => ?_)
    obtain ⟨kf, hq⟩ := hq
    exact B17 kf a1 (0 : Int32) m_shelf _ _ _ hq hP hD hS (lv_sub hl [1, 2, 0] rfl)
  · have hq := hq.2 c10
    refine lv_bipush (v := (-2 : Int32)) hx hb dX7_lay_12 (by decide) ?_
    exact W.iret (v := (-2 : Int32)) hx hb hr (fun t ht hW => ⟨⟨(-2 : Int32), m_shelf, rfl, hq, Bw_mk (by rw [ht]; exact hP) (va_K.moved hW.alike hK) hD⟩, hS.F ht⟩) hS.2.2 dX7_lay_14
set_option maxHeartbeats 4000000 in
set_option maxRecDepth 100000 in
theorem c7_take (l : Launch) (dC : Nat → ClassId) (dI : Nat → Nat → Nat) (cs : Nat → ClassId) (ad : Nat → Nat) (sz : Nat) (m_n : Int32) (m_order : Nat → Int32) (m_shelf : Nat → Int32) (m_opens : Int32) (m_lists : Nat → Int32) (m_listed : Nat → Int32) (m_work : Nat → Int32) (m_counts : Nat → Int64) (m_older : Nat → Int64) (m_products : Nat → Int64) (m_part : Nat → Int32) (m_parts : Int32) (m_ways : Nat → Int64) (m_used : Int32) (m_greaterNow : Int32) (m_countNow : Int32) (a1 : Int32) {Q : Int32 → (Nat → Int32) → Prop} (hq : q7_take m_n m_shelf m_order a1 Q) : Met l yX7_take (.code yX7_take cX7_take 3 (some .int) :: gt) ({ frames := 1, cells := 0, slots := 0, locals := 25 } : Room) (va_Pc [.ref (ad 0), .int a1] (Pw (dC, dI) (KA cs) (wX7 cs ad m_n m_order m_shelf m_opens m_lists m_listed m_work m_counts m_older m_products m_part m_parts m_ways m_used m_greaterNow m_countNow) sz)) (va_Qi (fun (r : Int32) (u : (Nat → Int32)) => Q r u) (Bw (dC, dI) (KA cs) (va_A (wX7 cs ad m_n m_order m_shelf m_opens m_lists m_listed m_work m_counts m_older m_products m_part m_parts m_ways m_used m_greaterNow m_countNow) sz) (fun u : (Nat → Int32) => (wX7 cs ad m_n u m_shelf m_opens m_lists m_listed m_work m_counts m_older m_products m_part m_parts m_ways m_used m_greaterNow m_countNow))) (va_A (wX7 cs ad m_n m_order m_shelf m_opens m_lists m_listed m_work m_counts m_older m_products m_part m_parts m_ways m_used m_greaterNow m_countNow) sz)) 0 0 (va_A (wX7 cs ad m_n m_order m_shelf m_opens m_lists m_listed m_work m_counts m_older m_products m_part m_parts m_ways m_used m_greaterNow m_countNow) sz) := by
  refine Met.ofW (cc := cX7_take) (maxL := 3) (ret := (some .int)) (by decide) rfl ?_
  intro p e s m args below meth c s₁ B hml hv
  obtain ⟨rfl, hsz, hP, hK, hD0, hN⟩ := hv
  have hx := B.exec
  have hb := B.bytes
  have hr := B.returns
  have hts0 := atoms_spec (ws := (.code yX7_take cX7_take 3 (some .int) :: gt)) B.pre
  have hts : ∀ w ∈ gt, w.before _ s = true := fun w h => hts0 w (List.mem_cons_of_mem _ h)
  have hown : s.vm.findClass RX7 = some m.cls := findClass_of_methodNamed B.named
  have hlocks := B.notSynchronized
  subst hsz
  have hD := hD0.self (sz := s.heap.size)
  generalize hAe : va_A (wX7 cs ad m_n m_order m_shelf m_opens m_lists m_listed m_work m_counts m_older m_products m_part m_parts m_ways m_used m_greaterNow m_countNow) s.heap.size = A at hD ⊢
  have hA : ∀ q : Nat, s.heap.size ≤ q → A q := fun q h => by rw [← hAe]; exact Or.inr h
  have hS : va_S A s.heap s.heap [] := va_S.rf
  have hl := lv_entry ([.ref (ad 0), .int a1]) (n := 3) (Nat.le_of_ble_eq_true rfl)
  rw [lg_entry_eq]
  generalize (lg_sl ([.ref (ad 0), .int a1]) ++ List.replicate (3 - (lg_sl ([.ref (ad 0), .int a1])).length) Slot.unset).toArray = ls at hl ⊢
  have hl : lv_has ls 3 [(0, .ref (ad 0)), (1, .int a1)] := hl
  have B17 : ∀ (k17 : Nat) (x1 : Int32) (x2 : Int32) (m_order : Nat → Int32) (H : Heap) (locs : List Loc) (ls : Array Slot), q7_take_17 m_n m_shelf Q k17 x1 x2 m_order → va_P (dC, dI) vwCl (wX7 cs ad m_n m_order m_shelf m_opens m_lists m_listed m_work m_counts m_older m_products m_part m_parts m_ways m_used m_greaterNow m_countNow) H → va_D A (wX7 cs ad m_n m_order m_shelf m_opens m_lists m_listed m_work m_counts m_older m_products m_part m_parts m_ways m_used m_greaterNow m_countNow) → va_S A s.heap H locs → lv_has ls 3 [(0, .ref (ad 0)), (1, .int x1), (2, .int x2)] → W p l e ({ frames := 1, cells := 0, slots := 0, locals := 25 } : Room) s m ([.ref (ad 0), .int a1] : List Value).toArray below meth c H locs 0 0 (MQ below (va_Qi (fun (r : Int32) (u : (Nat → Int32)) => Q r u) (Bw (dC, dI) (KA cs) A (fun u : (Nat → Int32) => (wX7 cs ad m_n u m_shelf m_opens m_lists m_listed m_work m_counts m_older m_products m_part m_parts m_ways m_used m_greaterNow m_countNow))) A) ([.ref (ad 0), .int a1] : List Value).toArray s 0 0 A) (F0 m 17 ls []) := by
    intro k17
    induction k17 with
    | zero => intro x1 x2 m_order H locs ls hq; exact False.elim hq
    | succ k17 ih17 =>
      intro x1 x2 m_order H locs ls hq hP hD hS hl
      unfold q7_take_17 at hq
      refine lv_iload_n hx hb dX7_take_17 rfl (lv_at hl 2 rfl) ?_
      refine lv_aload_n hx hb dX7_take_18 rfl (lv_at hl 0 rfl) ?_
      refine va_get (D := (dC, dI)) (ci := 7) (v := .int m_n) (C := RX7) (T := TX7) (N := 16) hx hb hts uwX7 hown hK hP 0 rfl rfl 0 (by decide) (hts _ fl_X7_7) (fun _ h9 => h9) rfl dX7_take_19 ?_
      refine lv_icmp_ge (tgt := 48) hx hb dX7_take_22 (by decide) (fun c6 => ?_) (fun c6 => ?_)
      · have hq := hq.1 c6
        refine lv_iconst (v := (1 : Int32)) hx hb dX7_take_48 (by decide) ?_
        exact W.iret (v := (1 : Int32)) hx hb hr (fun t ht hW => ⟨⟨(1 : Int32), m_order, rfl, hq, Bw_mk (by rw [ht]; exact hP) (va_K.moved hW.alike hK) hD⟩, hS.F ht⟩) hS.2.2 dX7_take_49
      · have hq := hq.2 c6
        refine lv_aload_n hx hb dX7_take_25 rfl (lv_at hl 0 rfl) ?_
        refine va_get (D := (dC, dI)) (ci := 7) (v := .ref (ad 1)) (C := RX7) (T := TX7) (N := 16) hx hb hts uwX7 hown hK hP 0 rfl rfl 1 (by decide) (hts _ fl_X7_13) (fun _ h9 => h9) rfl dX7_take_26 ?_
        refine lv_iload_n hx hb dX7_take_29 rfl (lv_at hl 2 rfl) ?_
        refine lv_aload_n hx hb dX7_take_30 rfl (lv_at hl 0 rfl) ?_
        refine va_get (D := (dC, dI)) (ci := 7) (v := .ref (ad 2)) (C := RX7) (T := TX7) (N := 16) hx hb hts uwX7 hown hK hP 0 rfl rfl 2 (by decide) (hts _ fl_X7_17) (fun _ h9 => h9) rfl dX7_take_31 ?_
        refine lv_bipush (v := (18 : Int32)) hx hb dX7_take_34 (by decide) ?_
        refine lv_iload_n hx hb dX7_take_36 rfl (lv_at hl 1 rfl) ?_
        refine lv_imul hx hb dX7_take_37 ?_
        refine lv_iload_n hx hb dX7_take_38 rfl (lv_at hl 2 rfl) ?_
        refine lv_iadd hx hb dX7_take_39 ?_
        obtain ⟨i7, hq⟩ := hq
        refine va_iald hx hb hK hP 2 0 rfl rfl i7 dX7_take_40 ?_
        obtain ⟨i8, hq⟩ := hq
        refine va_iast hx hb hK hP hD hS 1 0 rfl rfl i8 dX7_take_41 (fun H locs hP hD hS => ?_)
        have hP : va_P (dC, dI) vwCl (wX7 cs ad m_n (upd m_order x2.toNatClampNeg (m_shelf (((18 : Int32) * x1) + x2).toNatClampNeg)) m_shelf m_opens m_lists m_listed m_work m_counts m_older m_products m_part m_parts m_ways m_used m_greaterNow m_countNow) H := hP
        have hD : va_D A (wX7 cs ad m_n (upd m_order x2.toNatClampNeg (m_shelf (((18 : Int32) * x1) + x2).toNatClampNeg)) m_shelf m_opens m_lists m_listed m_work m_counts m_older m_products m_part m_parts m_ways m_used m_greaterNow m_countNow) := hD
        refine lv_iinc (v := (x2 + (1 : Int32))) (lv' := [(2, .int (x2 + (1 : Int32))), (0, .ref (ad 0)), (1, .int x1)]) hx hb dX7_take_42 hl (k := 2) rfl (by rfl) (by decide) rfl (fun ls hl => ?_)
        refine lv_goto (tgt := 17) hx hb dX7_take_45 (by decide) ?_
        exact ih17 x1 (x2 + (1 : Int32)) (upd m_order x2.toNatClampNeg (m_shelf (((18 : Int32) * x1) + x2).toNatClampNeg)) _ _ _ hq hP hD hS (lv_sub hl [1, 2, 0] rfl)
  unfold q7_take at hq
  refine lv_iload_n hx hb dX7_take_0 rfl (lv_at hl 1 rfl) ?_
  refine lv_i2l (v := a1.toInt64) hx hb dX7_take_1 rfl ?_
  refine lv_lconst (v := (0 : Int64)) hx hb dX7_take_2 (by decide) ?_
  refine lv_ldc2 (v := (3 : Int64)) hx hb hown (hts _ kl_X7_64) dX7_take_3 ?_
  refine roi (runS ⟨hx, hb, hml, hown, hts⟩ ws_X7_in ml_X7_51 (c7_in l dC dI cs   a1.toInt64 (0 : Int64) (3 : Int64) hq) ⟨⟨rfl, rfl⟩, by decide, by decide⟩ (preR va_P_nil hK hN) hN rfl hl.1 rfl (Nat.le_of_ble_eq_true rfl) dX7_take_6 ⟨(Nat.le_of_ble_eq_true rfl), (Nat.le_of_ble_eq_true rfl)⟩) (fun r9 hq => ?_)
  refine lv_if_ne (tgt := 15) hx hb dX7_take_9 (by decide) (fun c10 => ?_) (fun c10 => ?_)
  · have hq := hq.1 c10
    refine lv_iconst (v := (0 : Int32)) hx hb dX7_take_15 (by decide) ?_
    refine lv_istore_n (lv' := [(2, .int (0 : Int32)), (0, .ref (ad 0)), (1, .int a1)]) hx hb dX7_take_16 rfl hl (by decide) rfl (fun ls hl => ?_)
    obtain ⟨kf, hq⟩ := hq
    exact B17 kf a1 (0 : Int32) m_order _ _ _ hq hP hD hS (lv_sub hl [1, 2, 0] rfl)
  · have hq := hq.2 c10
    refine lv_bipush (v := (-2 : Int32)) hx hb dX7_take_12 (by decide) ?_
    exact W.iret (v := (-2 : Int32)) hx hb hr (fun t ht hW => ⟨⟨(-2 : Int32), m_order, rfl, hq, Bw_mk (by rw [ht]; exact hP) (va_K.moved hW.alike hK) hD⟩, hS.F ht⟩) hS.2.2 dX7_take_14
set_option maxHeartbeats 4000000 in
set_option maxRecDepth 100000 in
theorem c7_then (l : Launch) (dC : Nat → ClassId) (dI : Nat → Nat → Nat) (cs : Nat → ClassId) (ad : Nat → Nat) (sz : Nat) (m_n : Int32) (m_order : Nat → Int32) (m_shelf : Nat → Int32) (m_opens : Int32) (m_lists : Nat → Int32) (m_listed : Nat → Int32) (m_work : Nat → Int32) (m_counts : Nat → Int64) (m_older : Nat → Int64) (m_products : Nat → Int64) (m_part : Nat → Int32) (m_parts : Int32) (m_ways : Nat → Int64) (m_used : Int32) (m_greaterNow : Int32) (m_countNow : Int32) (a1 : Int32) {Q : Int32 → (Nat → Int32) → (Nat → Int32) → Prop} (hq : q7_then m_n m_shelf m_order m_work a1 Q) : Met l yX7_then (.code yX7_then cX7_then 3 (some .int) :: gt) ({ frames := 1, cells := 0, slots := 0, locals := 25 } : Room) (va_Pc [.ref (ad 0), .int a1] (Pw (dC, dI) (KA cs) (wX7 cs ad m_n m_order m_shelf m_opens m_lists m_listed m_work m_counts m_older m_products m_part m_parts m_ways m_used m_greaterNow m_countNow) sz)) (va_Qi (fun (r : Int32) (u : (Nat → Int32) × (Nat → Int32)) => Q r u.1 u.2) (Bw (dC, dI) (KA cs) (va_A (wX7 cs ad m_n m_order m_shelf m_opens m_lists m_listed m_work m_counts m_older m_products m_part m_parts m_ways m_used m_greaterNow m_countNow) sz) (fun u : (Nat → Int32) × (Nat → Int32) => (wX7 cs ad m_n u.1 m_shelf m_opens m_lists m_listed u.2 m_counts m_older m_products m_part m_parts m_ways m_used m_greaterNow m_countNow))) (va_A (wX7 cs ad m_n m_order m_shelf m_opens m_lists m_listed m_work m_counts m_older m_products m_part m_parts m_ways m_used m_greaterNow m_countNow) sz)) 0 0 (va_A (wX7 cs ad m_n m_order m_shelf m_opens m_lists m_listed m_work m_counts m_older m_products m_part m_parts m_ways m_used m_greaterNow m_countNow) sz) := by
  refine Met.ofW (cc := cX7_then) (maxL := 3) (ret := (some .int)) (by decide) rfl ?_
  intro p e s m args below meth c s₁ B hml hv
  obtain ⟨rfl, hsz, hP, hK, hD0, hN⟩ := hv
  have hx := B.exec
  have hb := B.bytes
  have hr := B.returns
  have hts0 := atoms_spec (ws := (.code yX7_then cX7_then 3 (some .int) :: gt)) B.pre
  have hts : ∀ w ∈ gt, w.before _ s = true := fun w h => hts0 w (List.mem_cons_of_mem _ h)
  have hown : s.vm.findClass RX7 = some m.cls := findClass_of_methodNamed B.named
  have hlocks := B.notSynchronized
  subst hsz
  have hD := hD0.self (sz := s.heap.size)
  generalize hAe : va_A (wX7 cs ad m_n m_order m_shelf m_opens m_lists m_listed m_work m_counts m_older m_products m_part m_parts m_ways m_used m_greaterNow m_countNow) s.heap.size = A at hD ⊢
  have hA : ∀ q : Nat, s.heap.size ≤ q → A q := fun q h => by rw [← hAe]; exact Or.inr h
  have hS : va_S A s.heap s.heap [] := va_S.rf
  have hl := lv_entry ([.ref (ad 0), .int a1]) (n := 3) (Nat.le_of_ble_eq_true rfl)
  rw [lg_entry_eq]
  generalize (lg_sl ([.ref (ad 0), .int a1]) ++ List.replicate (3 - (lg_sl ([.ref (ad 0), .int a1])).length) Slot.unset).toArray = ls at hl ⊢
  have hl : lv_has ls 3 [(0, .ref (ad 0)), (1, .int a1)] := hl
  have B53 : ∀ (m_order : Nat → Int32) (m_work : Nat → Int32) (H : Heap) (locs : List Loc) (ls : Array Slot), q7_then_53 m_n m_shelf Q m_order m_work → va_P (dC, dI) vwCl (wX7 cs ad m_n m_order m_shelf m_opens m_lists m_listed m_work m_counts m_older m_products m_part m_parts m_ways m_used m_greaterNow m_countNow) H → va_D A (wX7 cs ad m_n m_order m_shelf m_opens m_lists m_listed m_work m_counts m_older m_products m_part m_parts m_ways m_used m_greaterNow m_countNow) → va_S A s.heap H locs → lv_has ls 3 [(0, .ref (ad 0))] → W p l e ({ frames := 1, cells := 0, slots := 0, locals := 25 } : Room) s m ([.ref (ad 0), .int a1] : List Value).toArray below meth c H locs 0 0 (MQ below (va_Qi (fun (r : Int32) (u : (Nat → Int32) × (Nat → Int32)) => Q r u.1 u.2) (Bw (dC, dI) (KA cs) A (fun u : (Nat → Int32) × (Nat → Int32) => (wX7 cs ad m_n u.1 m_shelf m_opens m_lists m_listed u.2 m_counts m_older m_products m_part m_parts m_ways m_used m_greaterNow m_countNow))) A) ([.ref (ad 0), .int a1] : List Value).toArray s 0 0 A) (F0 m 53 ls []) := by
    intro m_order m_work H locs ls hq hP hD hS hl
    unfold q7_then_53 at hq
    refine lv_aload_n hx hb dX7_then_53 rfl (lv_at hl 0 rfl) ?_
    refine swv (runV ⟨hx, hb, hml, hown, hts⟩ wf_X7_become ml_X7_57 (c7_become l dC dI cs ad _ m_n m_order m_shelf m_opens m_lists m_listed m_work m_counts m_older m_products m_part m_parts m_ways m_used m_greaterNow m_countNow  hq) ⟨⟨rfl, rfl⟩, by decide, by decide⟩ (preW hP hK hN hD) hK hP rfl 0 rfl rfl hl.1 rfl (Nat.le_of_ble_eq_true rfl) dX7_then_54 ⟨(Nat.le_of_ble_eq_true rfl), (Nat.le_of_ble_eq_true rfl)⟩) hD hS hA (fun  m_order_9 H locs hq hP hD hS => ?_)
    have hP : va_P (dC, dI) vwCl (wX7 cs ad m_n m_order_9 m_shelf m_opens m_lists m_listed m_work m_counts m_older m_products m_part m_parts m_ways m_used m_greaterNow m_countNow) H := hP
    have hD : va_D A (wX7 cs ad m_n m_order_9 m_shelf m_opens m_lists m_listed m_work m_counts m_older m_products m_part m_parts m_ways m_used m_greaterNow m_countNow) := hD
    refine lv_iconst (v := (1 : Int32)) hx hb dX7_then_57 (by decide) ?_
    exact W.iret (v := (1 : Int32)) hx hb hr (fun t ht hW => ⟨⟨(1 : Int32), (m_order_9, m_work), rfl, hq, Bw_mk (by rw [ht]; exact hP) (va_K.moved hW.alike hK) hD⟩, hS.F ht⟩) hS.2.2 dX7_then_58
  have B17 : ∀ (k17 : Nat) (x1 : Int32) (x2 : Int32) (m_order : Nat → Int32) (m_work : Nat → Int32) (H : Heap) (locs : List Loc) (ls : Array Slot), q7_then_17 m_n m_shelf Q k17 x1 x2 m_order m_work → va_P (dC, dI) vwCl (wX7 cs ad m_n m_order m_shelf m_opens m_lists m_listed m_work m_counts m_older m_products m_part m_parts m_ways m_used m_greaterNow m_countNow) H → va_D A (wX7 cs ad m_n m_order m_shelf m_opens m_lists m_listed m_work m_counts m_older m_products m_part m_parts m_ways m_used m_greaterNow m_countNow) → va_S A s.heap H locs → lv_has ls 3 [(0, .ref (ad 0)), (1, .int x1), (2, .int x2)] → W p l e ({ frames := 1, cells := 0, slots := 0, locals := 25 } : Room) s m ([.ref (ad 0), .int a1] : List Value).toArray below meth c H locs 0 0 (MQ below (va_Qi (fun (r : Int32) (u : (Nat → Int32) × (Nat → Int32)) => Q r u.1 u.2) (Bw (dC, dI) (KA cs) A (fun u : (Nat → Int32) × (Nat → Int32) => (wX7 cs ad m_n u.1 m_shelf m_opens m_lists m_listed u.2 m_counts m_older m_products m_part m_parts m_ways m_used m_greaterNow m_countNow))) A) ([.ref (ad 0), .int a1] : List Value).toArray s 0 0 A) (F0 m 17 ls []) := by
    intro k17
    induction k17 with
    | zero => intro x1 x2 m_order m_work H locs ls hq; exact False.elim hq
    | succ k17 ih17 =>
      intro x1 x2 m_order m_work H locs ls hq hP hD hS hl
      unfold q7_then_17 at hq
      refine lv_iload_n hx hb dX7_then_17 rfl (lv_at hl 2 rfl) ?_
      refine lv_aload_n hx hb dX7_then_18 rfl (lv_at hl 0 rfl) ?_
      refine va_get (D := (dC, dI)) (ci := 7) (v := .int m_n) (C := RX7) (T := TX7) (N := 16) hx hb hts uwX7 hown hK hP 0 rfl rfl 0 (by decide) (hts _ fl_X7_7) (fun _ h9 => h9) rfl dX7_then_19 ?_
      refine lv_icmp_ge (tgt := 53) hx hb dX7_then_22 (by decide) (fun c11 => ?_) (fun c11 => ?_)
      · have hq := hq.1 c11
        exact B53 m_order m_work _ _ _ hq hP hD hS (lv_sub hl [0] rfl)
      · have hq := hq.2 c11
        refine lv_aload_n hx hb dX7_then_25 rfl (lv_at hl 0 rfl) ?_
        refine va_get (D := (dC, dI)) (ci := 7) (v := .ref (ad 5)) (C := RX7) (T := TX7) (N := 16) hx hb hts uwX7 hown hK hP 0 rfl rfl 6 (by decide) (hts _ fl_X7_29) (fun _ h9 => h9) rfl dX7_then_26 ?_
        refine lv_iload_n hx hb dX7_then_29 rfl (lv_at hl 2 rfl) ?_
        refine lv_aload_n hx hb dX7_then_30 rfl (lv_at hl 0 rfl) ?_
        refine va_get (D := (dC, dI)) (ci := 7) (v := .ref (ad 2)) (C := RX7) (T := TX7) (N := 16) hx hb hts uwX7 hown hK hP 0 rfl rfl 2 (by decide) (hts _ fl_X7_17) (fun _ h9 => h9) rfl dX7_then_31 ?_
        refine lv_bipush (v := (18 : Int32)) hx hb dX7_then_34 (by decide) ?_
        refine lv_iload_n hx hb dX7_then_36 rfl (lv_at hl 1 rfl) ?_
        refine lv_imul hx hb dX7_then_37 ?_
        refine lv_aload_n hx hb dX7_then_38 rfl (lv_at hl 0 rfl) ?_
        refine va_get (D := (dC, dI)) (ci := 7) (v := .ref (ad 1)) (C := RX7) (T := TX7) (N := 16) hx hb hts uwX7 hown hK hP 0 rfl rfl 1 (by decide) (hts _ fl_X7_13) (fun _ h9 => h9) rfl dX7_then_39 ?_
        refine lv_iload_n hx hb dX7_then_42 rfl (lv_at hl 2 rfl) ?_
        obtain ⟨i12, hq⟩ := hq
        refine va_iald hx hb hK hP 1 0 rfl rfl i12 dX7_then_43 ?_
        refine lv_iadd hx hb dX7_then_44 ?_
        obtain ⟨i13, hq⟩ := hq
        refine va_iald hx hb hK hP 2 0 rfl rfl i13 dX7_then_45 ?_
        obtain ⟨i14, hq⟩ := hq
        refine va_iast hx hb hK hP hD hS 5 0 rfl rfl i14 dX7_then_46 (fun H locs hP hD hS => ?_)
        have hP : va_P (dC, dI) vwCl (wX7 cs ad m_n m_order m_shelf m_opens m_lists m_listed (upd m_work x2.toNatClampNeg (m_shelf (((18 : Int32) * x1) + (m_order x2.toNatClampNeg)).toNatClampNeg)) m_counts m_older m_products m_part m_parts m_ways m_used m_greaterNow m_countNow) H := hP
        have hD : va_D A (wX7 cs ad m_n m_order m_shelf m_opens m_lists m_listed (upd m_work x2.toNatClampNeg (m_shelf (((18 : Int32) * x1) + (m_order x2.toNatClampNeg)).toNatClampNeg)) m_counts m_older m_products m_part m_parts m_ways m_used m_greaterNow m_countNow) := hD
        refine lv_iinc (v := (x2 + (1 : Int32))) (lv' := [(2, .int (x2 + (1 : Int32))), (0, .ref (ad 0)), (1, .int x1)]) hx hb dX7_then_47 hl (k := 2) rfl (by rfl) (by decide) rfl (fun ls hl => ?_)
        refine lv_goto (tgt := 17) hx hb dX7_then_50 (by decide) ?_
        exact ih17 x1 (x2 + (1 : Int32)) m_order (upd m_work x2.toNatClampNeg (m_shelf (((18 : Int32) * x1) + (m_order x2.toNatClampNeg)).toNatClampNeg)) _ _ _ hq hP hD hS (lv_sub hl [1, 2, 0] rfl)
  unfold q7_then at hq
  refine lv_iload_n hx hb dX7_then_0 rfl (lv_at hl 1 rfl) ?_
  refine lv_i2l (v := a1.toInt64) hx hb dX7_then_1 rfl ?_
  refine lv_lconst (v := (0 : Int64)) hx hb dX7_then_2 (by decide) ?_
  refine lv_ldc2 (v := (3 : Int64)) hx hb hown (hts _ kl_X7_64) dX7_then_3 ?_
  refine roi (runS ⟨hx, hb, hml, hown, hts⟩ ws_X7_in ml_X7_51 (c7_in l dC dI cs   a1.toInt64 (0 : Int64) (3 : Int64) hq) ⟨⟨rfl, rfl⟩, by decide, by decide⟩ (preR va_P_nil hK hN) hN rfl hl.1 rfl (Nat.le_of_ble_eq_true rfl) dX7_then_6 ⟨(Nat.le_of_ble_eq_true rfl), (Nat.le_of_ble_eq_true rfl)⟩) (fun r15 hq => ?_)
  refine lv_if_ne (tgt := 15) hx hb dX7_then_9 (by decide) (fun c16 => ?_) (fun c16 => ?_)
  · have hq := hq.1 c16
    refine lv_iconst (v := (0 : Int32)) hx hb dX7_then_15 (by decide) ?_
    refine lv_istore_n (lv' := [(2, .int (0 : Int32)), (0, .ref (ad 0)), (1, .int a1)]) hx hb dX7_then_16 rfl hl (by decide) rfl (fun ls hl => ?_)
    obtain ⟨kf, hq⟩ := hq
    exact B17 kf a1 (0 : Int32) m_order m_work _ _ _ hq hP hD hS (lv_sub hl [1, 2, 0] rfl)
  · have hq := hq.2 c16
    refine lv_bipush (v := (-2 : Int32)) hx hb dX7_then_12 (by decide) ?_
    exact W.iret (v := (-2 : Int32)) hx hb hr (fun t ht hW => ⟨⟨(-2 : Int32), (m_order, m_work), rfl, hq, Bw_mk (by rw [ht]; exact hP) (va_K.moved hW.alike hK) hD⟩, hS.F ht⟩) hS.2.2 dX7_then_14
set_option maxHeartbeats 4000000 in
set_option maxRecDepth 100000 in
theorem c7_back (l : Launch) (dC : Nat → ClassId) (dI : Nat → Nat → Nat) (cs : Nat → ClassId) (ad : Nat → Nat) (sz : Nat) (m_n : Int32) (m_order : Nat → Int32) (m_shelf : Nat → Int32) (m_opens : Int32) (m_lists : Nat → Int32) (m_listed : Nat → Int32) (m_work : Nat → Int32) (m_counts : Nat → Int64) (m_older : Nat → Int64) (m_products : Nat → Int64) (m_part : Nat → Int32) (m_parts : Int32) (m_ways : Nat → Int64) (m_used : Int32) (m_greaterNow : Int32) (m_countNow : Int32) {Q : Int32 → (Nat → Int32) → (Nat → Int32) → Prop} (hq : q7_back m_n m_order m_work Q) : Met l yX7_back (.code yX7_back cX7_back 2 (some .int) :: gt) ({ frames := 1, cells := 0, slots := 0, locals := 21 } : Room) (va_Pc [.ref (ad 0)] (Pw (dC, dI) (KA cs) (wX7 cs ad m_n m_order m_shelf m_opens m_lists m_listed m_work m_counts m_older m_products m_part m_parts m_ways m_used m_greaterNow m_countNow) sz)) (va_Qi (fun (r : Int32) (u : (Nat → Int32) × (Nat → Int32)) => Q r u.1 u.2) (Bw (dC, dI) (KA cs) (va_A (wX7 cs ad m_n m_order m_shelf m_opens m_lists m_listed m_work m_counts m_older m_products m_part m_parts m_ways m_used m_greaterNow m_countNow) sz) (fun u : (Nat → Int32) × (Nat → Int32) => (wX7 cs ad m_n u.1 m_shelf m_opens m_lists m_listed u.2 m_counts m_older m_products m_part m_parts m_ways m_used m_greaterNow m_countNow))) (va_A (wX7 cs ad m_n m_order m_shelf m_opens m_lists m_listed m_work m_counts m_older m_products m_part m_parts m_ways m_used m_greaterNow m_countNow) sz)) 0 0 (va_A (wX7 cs ad m_n m_order m_shelf m_opens m_lists m_listed m_work m_counts m_older m_products m_part m_parts m_ways m_used m_greaterNow m_countNow) sz) := by
  refine Met.ofW (cc := cX7_back) (maxL := 2) (ret := (some .int)) (by decide) rfl ?_
  intro p e s m args below meth c s₁ B hml hv
  obtain ⟨rfl, hsz, hP, hK, hD0, hN⟩ := hv
  have hx := B.exec
  have hb := B.bytes
  have hr := B.returns
  have hts0 := atoms_spec (ws := (.code yX7_back cX7_back 2 (some .int) :: gt)) B.pre
  have hts : ∀ w ∈ gt, w.before _ s = true := fun w h => hts0 w (List.mem_cons_of_mem _ h)
  have hown : s.vm.findClass RX7 = some m.cls := findClass_of_methodNamed B.named
  have hlocks := B.notSynchronized
  subst hsz
  have hD := hD0.self (sz := s.heap.size)
  generalize hAe : va_A (wX7 cs ad m_n m_order m_shelf m_opens m_lists m_listed m_work m_counts m_older m_products m_part m_parts m_ways m_used m_greaterNow m_countNow) s.heap.size = A at hD ⊢
  have hA : ∀ q : Nat, s.heap.size ≤ q → A q := fun q h => by rw [← hAe]; exact Or.inr h
  have hS : va_S A s.heap s.heap [] := va_S.rf
  have hl := lv_entry ([.ref (ad 0)]) (n := 2) (Nat.le_of_ble_eq_true rfl)
  rw [lg_entry_eq]
  generalize (lg_sl ([.ref (ad 0)]) ++ List.replicate (2 - (lg_sl ([.ref (ad 0)])).length) Slot.unset).toArray = ls at hl ⊢
  have hl : lv_has ls 2 [(0, .ref (ad 0))] := hl
  have B28 : ∀ (m_order : Nat → Int32) (m_work : Nat → Int32) (H : Heap) (locs : List Loc) (ls : Array Slot), q7_back_28 m_n Q m_order m_work → va_P (dC, dI) vwCl (wX7 cs ad m_n m_order m_shelf m_opens m_lists m_listed m_work m_counts m_older m_products m_part m_parts m_ways m_used m_greaterNow m_countNow) H → va_D A (wX7 cs ad m_n m_order m_shelf m_opens m_lists m_listed m_work m_counts m_older m_products m_part m_parts m_ways m_used m_greaterNow m_countNow) → va_S A s.heap H locs → lv_has ls 2 [(0, .ref (ad 0))] → W p l e ({ frames := 1, cells := 0, slots := 0, locals := 21 } : Room) s m ([.ref (ad 0)] : List Value).toArray below meth c H locs 0 0 (MQ below (va_Qi (fun (r : Int32) (u : (Nat → Int32) × (Nat → Int32)) => Q r u.1 u.2) (Bw (dC, dI) (KA cs) A (fun u : (Nat → Int32) × (Nat → Int32) => (wX7 cs ad m_n u.1 m_shelf m_opens m_lists m_listed u.2 m_counts m_older m_products m_part m_parts m_ways m_used m_greaterNow m_countNow))) A) ([.ref (ad 0)] : List Value).toArray s 0 0 A) (F0 m 28 ls []) := by
    intro m_order m_work H locs ls hq hP hD hS hl
    unfold q7_back_28 at hq
    refine lv_aload_n hx hb dX7_back_28 rfl (lv_at hl 0 rfl) ?_
    refine swv (runV ⟨hx, hb, hml, hown, hts⟩ wf_X7_become ml_X7_57 (c7_become l dC dI cs ad _ m_n m_order m_shelf m_opens m_lists m_listed m_work m_counts m_older m_products m_part m_parts m_ways m_used m_greaterNow m_countNow  hq) ⟨⟨rfl, rfl⟩, by decide, by decide⟩ (preW hP hK hN hD) hK hP rfl 0 rfl rfl hl.1 rfl (Nat.le_of_ble_eq_true rfl) dX7_back_29 ⟨(Nat.le_of_ble_eq_true rfl), (Nat.le_of_ble_eq_true rfl)⟩) hD hS hA (fun  m_order_6 H locs hq hP hD hS => ?_)
    have hP : va_P (dC, dI) vwCl (wX7 cs ad m_n m_order_6 m_shelf m_opens m_lists m_listed m_work m_counts m_older m_products m_part m_parts m_ways m_used m_greaterNow m_countNow) H := hP
    have hD : va_D A (wX7 cs ad m_n m_order_6 m_shelf m_opens m_lists m_listed m_work m_counts m_older m_products m_part m_parts m_ways m_used m_greaterNow m_countNow) := hD
    refine lv_iconst (v := (1 : Int32)) hx hb dX7_back_32 (by decide) ?_
    exact W.iret (v := (1 : Int32)) hx hb hr (fun t ht hW => ⟨⟨(1 : Int32), (m_order_6, m_work), rfl, hq, Bw_mk (by rw [ht]; exact hP) (va_K.moved hW.alike hK) hD⟩, hS.F ht⟩) hS.2.2 dX7_back_33
  have B2 : ∀ (k2 : Nat) (x1 : Int32) (m_order : Nat → Int32) (m_work : Nat → Int32) (H : Heap) (locs : List Loc) (ls : Array Slot), q7_back_2 m_n Q k2 x1 m_order m_work → va_P (dC, dI) vwCl (wX7 cs ad m_n m_order m_shelf m_opens m_lists m_listed m_work m_counts m_older m_products m_part m_parts m_ways m_used m_greaterNow m_countNow) H → va_D A (wX7 cs ad m_n m_order m_shelf m_opens m_lists m_listed m_work m_counts m_older m_products m_part m_parts m_ways m_used m_greaterNow m_countNow) → va_S A s.heap H locs → lv_has ls 2 [(0, .ref (ad 0)), (1, .int x1)] → W p l e ({ frames := 1, cells := 0, slots := 0, locals := 21 } : Room) s m ([.ref (ad 0)] : List Value).toArray below meth c H locs 0 0 (MQ below (va_Qi (fun (r : Int32) (u : (Nat → Int32) × (Nat → Int32)) => Q r u.1 u.2) (Bw (dC, dI) (KA cs) A (fun u : (Nat → Int32) × (Nat → Int32) => (wX7 cs ad m_n u.1 m_shelf m_opens m_lists m_listed u.2 m_counts m_older m_products m_part m_parts m_ways m_used m_greaterNow m_countNow))) A) ([.ref (ad 0)] : List Value).toArray s 0 0 A) (F0 m 2 ls []) := by
    intro k2
    induction k2 with
    | zero => intro x1 m_order m_work H locs ls hq; exact False.elim hq
    | succ k2 ih2 =>
      intro x1 m_order m_work H locs ls hq hP hD hS hl
      unfold q7_back_2 at hq
      refine lv_iload_n hx hb dX7_back_2 rfl (lv_at hl 1 rfl) ?_
      refine lv_aload_n hx hb dX7_back_3 rfl (lv_at hl 0 rfl) ?_
      refine va_get (D := (dC, dI)) (ci := 7) (v := .int m_n) (C := RX7) (T := TX7) (N := 16) hx hb hts uwX7 hown hK hP 0 rfl rfl 0 (by decide) (hts _ fl_X7_7) (fun _ h9 => h9) rfl dX7_back_4 ?_
      refine lv_icmp_ge (tgt := 28) hx hb dX7_back_7 (by decide) (fun c8 => ?_) (fun c8 => ?_)
      · have hq := hq.1 c8
        exact B28 m_order m_work _ _ _ hq hP hD hS (lv_sub hl [0] rfl)
      · have hq := hq.2 c8
        refine lv_aload_n hx hb dX7_back_10 rfl (lv_at hl 0 rfl) ?_
        refine va_get (D := (dC, dI)) (ci := 7) (v := .ref (ad 5)) (C := RX7) (T := TX7) (N := 16) hx hb hts uwX7 hown hK hP 0 rfl rfl 6 (by decide) (hts _ fl_X7_29) (fun _ h9 => h9) rfl dX7_back_11 ?_
        refine lv_aload_n hx hb dX7_back_14 rfl (lv_at hl 0 rfl) ?_
        refine va_get (D := (dC, dI)) (ci := 7) (v := .ref (ad 1)) (C := RX7) (T := TX7) (N := 16) hx hb hts uwX7 hown hK hP 0 rfl rfl 1 (by decide) (hts _ fl_X7_13) (fun _ h9 => h9) rfl dX7_back_15 ?_
        refine lv_iload_n hx hb dX7_back_18 rfl (lv_at hl 1 rfl) ?_
        obtain ⟨i9, hq⟩ := hq
        refine va_iald hx hb hK hP 1 0 rfl rfl i9 dX7_back_19 ?_
        refine lv_iload_n hx hb dX7_back_20 rfl (lv_at hl 1 rfl) ?_
        obtain ⟨i10, hq⟩ := hq
        refine va_iast hx hb hK hP hD hS 5 0 rfl rfl i10 dX7_back_21 (fun H locs hP hD hS => ?_)
        have hP : va_P (dC, dI) vwCl (wX7 cs ad m_n m_order m_shelf m_opens m_lists m_listed (upd m_work (m_order x1.toNatClampNeg).toNatClampNeg x1) m_counts m_older m_products m_part m_parts m_ways m_used m_greaterNow m_countNow) H := hP
        have hD : va_D A (wX7 cs ad m_n m_order m_shelf m_opens m_lists m_listed (upd m_work (m_order x1.toNatClampNeg).toNatClampNeg x1) m_counts m_older m_products m_part m_parts m_ways m_used m_greaterNow m_countNow) := hD
        refine lv_iinc (v := (x1 + (1 : Int32))) (lv' := [(1, .int (x1 + (1 : Int32))), (0, .ref (ad 0))]) hx hb dX7_back_22 hl (k := 1) rfl (by rfl) (by decide) rfl (fun ls hl => ?_)
        refine lv_goto (tgt := 2) hx hb dX7_back_25 (by decide) ?_
        exact ih2 (x1 + (1 : Int32)) m_order (upd m_work (m_order x1.toNatClampNeg).toNatClampNeg x1) _ _ _ hq hP hD hS (lv_sub hl [1, 0] rfl)
  unfold q7_back at hq
  refine lv_iconst (v := (0 : Int32)) hx hb dX7_back_0 (by decide) ?_
  refine lv_istore_n (lv' := [(1, .int (0 : Int32)), (0, .ref (ad 0))]) hx hb dX7_back_1 rfl hl (by decide) rfl (fun ls hl => ?_)
  obtain ⟨kf, hq⟩ := hq
  exact B2 kf (0 : Int32) m_order m_work _ _ _ hq hP hD hS (lv_sub hl [1, 0] rfl)
set_option maxHeartbeats 4000000 in
set_option maxRecDepth 100000 in
theorem c7_common (l : Launch) (dC : Nat → ClassId) (dI : Nat → Nat → Nat) (cs : Nat → ClassId) (a0 : Int64) (a2 : Int64) {Q : Int64 → Prop} (hq : q7_common a0 a2 Q) : Met l yX7_common (.code yX7_common cX7_common 10 (some .long) :: gt) ({ frames := 0, cells := 0, slots := 0, locals := 0 } : Room) (va_Pc [.long a0, .long a2] (Pr (dC, dI) (KA cs) ([] : va_W))) (vp_Sl Q) 0 0 (fun _ => False) := by
  refine Met.ofW (cc := cX7_common) (maxL := 10) (ret := (some .long)) (by decide) rfl ?_
  intro p e s m args below meth c s₁ B hml hv
  obtain ⟨rfl, hP, hK, hN⟩ := hv
  have hx := B.exec
  have hb := B.bytes
  have hr := B.returns
  have hts0 := atoms_spec (ws := (.code yX7_common cX7_common 10 (some .long) :: gt)) B.pre
  have hts : ∀ w ∈ gt, w.before _ s = true := fun w h => hts0 w (List.mem_cons_of_mem _ h)
  have hown : s.vm.findClass RX7 = some m.cls := findClass_of_methodNamed B.named
  have hlocks := B.notSynchronized
  have hl := lv_entry ([.long a0, .long a2]) (n := 10) (Nat.le_of_ble_eq_true rfl)
  rw [lg_entry_eq]
  generalize (lg_sl ([.long a0, .long a2]) ++ List.replicate (10 - (lg_sl ([.long a0, .long a2])).length) Slot.unset).toArray = ls at hl ⊢
  have hl : lv_has ls 10 [(0, .long a0), (2, .long a2)] := hl
  have B6 : ∀ (k6 : Nat) (x4 : Int64) (x6 : Int64) (ls : Array Slot), q7_common_6 Q k6 x4 x6 → lv_has ls 10 [(4, .long x4), (6, .long x6)] → W p l e ({ frames := 0, cells := 0, slots := 0, locals := 0 } : Room) s m ([.long a0, .long a2] : List Value).toArray below meth c s.heap [] 0 0 (MQ below (vp_Sl Q) ([.long a0, .long a2] : List Value).toArray s 0 0 (fun _ => False)) (F0 m 6 ls []) := by
    intro k6
    induction k6 with
    | zero => intro x4 x6 ls hq; exact False.elim hq
    | succ k6 ih6 =>
      intro x4 x6 ls hq hl
      unfold q7_common_6 at hq
      refine lv_lload hx hb dX7_common_6 (lv_at hl 1 rfl) ?_
      refine lv_lconst (v := (0 : Int64)) hx hb dX7_common_8 (by decide) ?_
      refine lc_eq (tgt := 31) hx hb dX7_common_9 dX7_common_10 (by decide) (fun c3 => ?_) (fun c3 => ?_)
      · have hq := hq.1 c3
        refine lv_lload hx hb dX7_common_31 (lv_at hl 0 rfl) ?_
        exact W.lret (v := x4) hx hb hr (fun t ht hW => ⟨x4, rfl, hq, ht⟩) (fun q h => absurd h List.not_mem_nil) dX7_common_33
      · have hq := hq.2 c3
        refine lv_lload hx hb dX7_common_13 (lv_at hl 0 rfl) ?_
        refine lv_lload hx hb dX7_common_15 (lv_at hl 1 rfl) ?_
        obtain ⟨z4, hq⟩ := hq
        refine lv_lrem hx hb dX7_common_17 z4 ?_
        refine lv_lstore (lv' := [(8, .long (x4 - x4 / x6 * x6)), (4, .long x4), (6, .long x6)]) hx hb dX7_common_18 hl (by decide) rfl (fun ls hl => ?_)
        refine lv_lload hx hb dX7_common_20 (lv_at hl 2 rfl) ?_
        refine lv_lstore (lv' := [(4, .long x6), (8, .long (x4 - x4 / x6 * x6)), (6, .long x6)]) hx hb dX7_common_22 hl (by decide) rfl (fun ls hl => ?_)
        refine lv_lload hx hb dX7_common_24 (lv_at hl 1 rfl) ?_
        refine lv_lstore (lv' := [(6, .long (x4 - x4 / x6 * x6)), (4, .long x6), (8, .long (x4 - x4 / x6 * x6))]) hx hb dX7_common_26 hl (by decide) rfl (fun ls hl => ?_)
        refine lv_goto (tgt := 6) hx hb dX7_common_28 (by decide) ?_
        exact ih6 x6 (x4 - x4 / x6 * x6) _ hq (lv_sub hl [1, 0] rfl)
  unfold q7_common at hq
  refine lv_lload_n hx hb dX7_common_0 rfl (lv_at hl 0 rfl) ?_
  refine lv_lstore (lv' := [(4, .long a0), (0, .long a0), (2, .long a2)]) hx hb dX7_common_1 hl (by decide) rfl (fun ls hl => ?_)
  refine lv_lload_n hx hb dX7_common_3 rfl (lv_at hl 2 rfl) ?_
  refine lv_lstore (lv' := [(6, .long a2), (4, .long a0), (0, .long a0), (2, .long a2)]) hx hb dX7_common_4 hl (by decide) rfl (fun ls hl => ?_)
  obtain ⟨kf, hq⟩ := hq
  exact B6 kf a0 a2 _ hq (lv_sub hl [1, 0] rfl)
set_option maxHeartbeats 4000000 in
set_option maxRecDepth 100000 in
theorem c7_roundOf (l : Launch) (dC : Nat → ClassId) (dI : Nat → Nat → Nat) (cs : Nat → ClassId) (ad : Nat → Nat) (m_n : Int32) (m_order : Nat → Int32) (m_shelf : Nat → Int32) (m_opens : Int32) (m_lists : Nat → Int32) (m_listed : Nat → Int32) (m_work : Nat → Int32) (m_counts : Nat → Int64) (m_older : Nat → Int64) (m_products : Nat → Int64) (m_part : Nat → Int32) (m_parts : Int32) (m_ways : Nat → Int64) (m_used : Int32) (m_greaterNow : Int32) (m_countNow : Int32) (a1 : Int32) {Q : Int32 → Prop} (hq : q7_roundOf m_order a1 Q) : Met l yX7_roundOf (.code yX7_roundOf cX7_roundOf 4 (some .int) :: gt) ({ frames := 0, cells := 0, slots := 0, locals := 0 } : Room) (va_Pc [.ref (ad 0), .int a1] (Pr (dC, dI) (KA cs) (wX7 cs ad m_n m_order m_shelf m_opens m_lists m_listed m_work m_counts m_older m_products m_part m_parts m_ways m_used m_greaterNow m_countNow))) (vp_Si Q) 0 0 (fun _ => False) := by
  refine Met.ofW (cc := cX7_roundOf) (maxL := 4) (ret := (some .int)) (by decide) rfl ?_
  intro p e s m args below meth c s₁ B hml hv
  obtain ⟨rfl, hP, hK, hN⟩ := hv
  have hx := B.exec
  have hb := B.bytes
  have hr := B.returns
  have hts0 := atoms_spec (ws := (.code yX7_roundOf cX7_roundOf 4 (some .int) :: gt)) B.pre
  have hts : ∀ w ∈ gt, w.before _ s = true := fun w h => hts0 w (List.mem_cons_of_mem _ h)
  have hown : s.vm.findClass RX7 = some m.cls := findClass_of_methodNamed B.named
  have hlocks := B.notSynchronized
  have hl := lv_entry ([.ref (ad 0), .int a1]) (n := 4) (Nat.le_of_ble_eq_true rfl)
  rw [lg_entry_eq]
  generalize (lg_sl ([.ref (ad 0), .int a1]) ++ List.replicate (4 - (lg_sl ([.ref (ad 0), .int a1])).length) Slot.unset).toArray = ls at hl ⊢
  have hl : lv_has ls 4 [(0, .ref (ad 0)), (1, .int a1)] := hl
  have B9 : ∀ (k9 : Nat) (x1 : Int32) (x2 : Int32) (x3 : Int32) (ls : Array Slot), q7_roundOf_9 m_order Q k9 x1 x2 x3 → lv_has ls 4 [(0, .ref (ad 0)), (1, .int x1), (2, .int x2), (3, .int x3)] → W p l e ({ frames := 0, cells := 0, slots := 0, locals := 0 } : Room) s m ([.ref (ad 0), .int a1] : List Value).toArray below meth c s.heap [] 0 0 (MQ below (vp_Si Q) ([.ref (ad 0), .int a1] : List Value).toArray s 0 0 (fun _ => False)) (F0 m 9 ls []) := by
    intro k9
    induction k9 with
    | zero => intro x1 x2 x3 ls hq; exact False.elim hq
    | succ k9 ih9 =>
      intro x1 x2 x3 ls hq hl
      unfold q7_roundOf_9 at hq
      refine lv_iload_n hx hb dX7_roundOf_9 rfl (lv_at hl 3 rfl) ?_
      refine lv_iload_n hx hb dX7_roundOf_10 rfl (lv_at hl 1 rfl) ?_
      refine lv_icmp_eq (tgt := 27) hx hb dX7_roundOf_11 (by decide) (fun c4 => ?_) (fun c4 => ?_)
      · have hq := hq.1 c4
        refine lv_iload_n hx hb dX7_roundOf_27 rfl (lv_at hl 2 rfl) ?_
        exact W.iret (v := x2) hx hb hr (fun t ht hW => ⟨x2, rfl, hq, ht⟩) (fun q h => absurd h List.not_mem_nil) dX7_roundOf_28
      · have hq := hq.2 c4
        refine lv_iinc (v := (x2 + (1 : Int32))) (lv' := [(2, .int (x2 + (1 : Int32))), (0, .ref (ad 0)), (1, .int x1), (3, .int x3)]) hx hb dX7_roundOf_14 hl (k := 2) rfl (by rfl) (by decide) rfl (fun ls hl => ?_)
        refine lv_aload_n hx hb dX7_roundOf_17 rfl (lv_at hl 1 rfl) ?_
        refine va_get (D := (dC, dI)) (ci := 7) (v := .ref (ad 1)) (C := RX7) (T := TX7) (N := 16) hx hb hts uwX7 hown hK hP 0 rfl rfl 1 (by decide) (hts _ fl_X7_13) (fun _ h9 => h9) rfl dX7_roundOf_18 ?_
        refine lv_iload_n hx hb dX7_roundOf_21 rfl (lv_at hl 3 rfl) ?_
        obtain ⟨i5, hq⟩ := hq
        refine va_iald hx hb hK hP 1 0 rfl rfl i5 dX7_roundOf_22 ?_
        refine lv_istore_n (lv' := [(3, .int (m_order x3.toNatClampNeg)), (2, .int (x2 + (1 : Int32))), (0, .ref (ad 0)), (1, .int x1)]) hx hb dX7_roundOf_23 rfl hl (by decide) rfl (fun ls hl => ?_)
        refine lv_goto (tgt := 9) hx hb dX7_roundOf_24 (by decide) ?_
        exact ih9 x1 (x2 + (1 : Int32)) (m_order x3.toNatClampNeg) _ hq (lv_sub hl [2, 3, 1, 0] rfl)
  unfold q7_roundOf at hq
  refine lv_iconst (v := (1 : Int32)) hx hb dX7_roundOf_0 (by decide) ?_
  refine lv_istore_n (lv' := [(2, .int (1 : Int32)), (0, .ref (ad 0)), (1, .int a1)]) hx hb dX7_roundOf_1 rfl hl (by decide) rfl (fun ls hl => ?_)
  refine lv_aload_n hx hb dX7_roundOf_2 rfl (lv_at hl 1 rfl) ?_
  refine va_get (D := (dC, dI)) (ci := 7) (v := .ref (ad 1)) (C := RX7) (T := TX7) (N := 16) hx hb hts uwX7 hown hK hP 0 rfl rfl 1 (by decide) (hts _ fl_X7_13) (fun _ h9 => h9) rfl dX7_roundOf_3 ?_
  refine lv_iload_n hx hb dX7_roundOf_6 rfl (lv_at hl 2 rfl) ?_
  obtain ⟨i6, hq⟩ := hq
  refine va_iald hx hb hK hP 1 0 rfl rfl i6 dX7_roundOf_7 ?_
  refine lv_istore_n (lv' := [(3, .int (m_order a1.toNatClampNeg)), (2, .int (1 : Int32)), (0, .ref (ad 0)), (1, .int a1)]) hx hb dX7_roundOf_8 rfl hl (by decide) rfl (fun ls hl => ?_)
  obtain ⟨kf, hq⟩ := hq
  exact B9 kf a1 (1 : Int32) (m_order a1.toNatClampNeg) _ hq (lv_sub hl [2, 3, 1, 0] rfl)
