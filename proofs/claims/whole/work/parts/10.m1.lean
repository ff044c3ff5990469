def q7_in (a0 : Int64) (a2 : Int64) (a4 : Int64) (Q : Int32 → Prop) : Prop := (a0 < a2 → Q (0 : Int32)) ∧ (¬ a0 < a2 → (a4 < a0 → Q (0 : Int32)) ∧ (¬ a4 < a0 → Q (1 : Int32)))
set_option maxHeartbeats 4000000 in
set_option maxRecDepth 100000 in
theorem c7_in (l : Launch) (dC : Nat → ClassId) (dI : Nat → Nat → Nat) (cs : Nat → ClassId) (a0 : Int64) (a2 : Int64) (a4 : Int64) {Q : Int32 → Prop} (hq : q7_in a0 a2 a4 Q) : Met l yX7_in (.code yX7_in cX7_in 6 (some .boolean) :: gt) ({ frames := 0, cells := 0, slots := 0, locals := 0 } : Room) (va_Pc [.long a0, .long a2, .long a4] (Pr (dC, dI) (KA cs) ([] : va_W))) (vp_Si Q) 0 0 (fun _ => False) := by
  refine Met.ofW (cc := cX7_in) (maxL := 6) (ret := (some .boolean)) (by decide) rfl ?_
  intro p e s m args below meth c s₁ B hml hv
  obtain ⟨rfl, hP, hK, hN⟩ := hv
  have hx := B.exec
  have hb := B.bytes
  have hr := B.returns
  have hts0 := atoms_spec (ws := (.code yX7_in cX7_in 6 (some .boolean) :: gt)) B.pre
  have hts : ∀ w ∈ gt, w.before _ s = true := fun w h => hts0 w (List.mem_cons_of_mem _ h)
  have hown : s.vm.findClass RX7 = some m.cls := findClass_of_methodNamed B.named
  have hlocks := B.notSynchronized
  have hl := lv_entry ([.long a0, .long a2, .long a4]) (n := 6) (Nat.le_of_ble_eq_true rfl)
  rw [lg_entry_eq]
  generalize (lg_sl ([.long a0, .long a2, .long a4]) ++ List.replicate (6 - (lg_sl ([.long a0, .long a2, .long a4])).length) Slot.unset).toArray = ls at hl ⊢
  have hl : lv_has ls 6 [(0, .long a0), (2, .long a2), (4, .long a4)] := hl
  unfold q7_in at hq
  refine lv_lload_n hx hb dX7_in_0 rfl (lv_at hl 0 rfl) ?_
  refine lv_lload_n hx hb dX7_in_1 rfl (lv_at hl 1 rfl) ?_
  refine lc_lt (tgt := 17) hx hb dX7_in_2 dX7_in_3 (by decide) (fun c3 => ?_) (fun c3 => ?_)
  · have hq := hq.1 c3
    refine lv_iconst (v := (0 : Int32)) hx hb dX7_in_17 (by decide) ?_
    exact W.zret (ty := .boolean) (v := (0 : Int32)) hx hb hr rfl (fun t ht hW => ⟨(0 : Int32), rfl, hq, ht⟩) (fun q h => absurd h List.not_mem_nil) dX7_in_18
  · have hq := hq.2 c3
    refine lv_lload_n hx hb dX7_in_6 rfl (lv_at hl 0 rfl) ?_
    refine lv_lload hx hb dX7_in_7 (lv_at hl 2 rfl) ?_
    refine lc_gt (tgt := 17) hx hb dX7_in_9 dX7_in_10 (by decide) (fun c4 => ?_) (fun c4 => ?_)
    · have hq := hq.1 c4
      refine lv_iconst (v := (0 : Int32)) hx hb dX7_in_17 (by decide) ?_
      exact W.zret (ty := .boolean) (v := (0 : Int32)) hx hb hr rfl (fun t ht hW => ⟨(0 : Int32), rfl, hq, ht⟩) (fun q h => absurd h List.not_mem_nil) dX7_in_18
    · have hq := hq.2 c4
      refine lv_iconst (v := (1 : Int32)) hx hb dX7_in_13 (by decide) ?_
      refine lv_goto (tgt := 18) hx hb dX7_in_14 (by decide) ?_
      exact W.zret (ty := .boolean) (v := (1 : Int32)) hx hb hr rfl (fun t ht hW => ⟨(1 : Int32), rfl, hq, ht⟩) (fun q h => absurd h List.not_mem_nil) dX7_in_18
def q7_isThing (m_n : Int32) (a1 : Int32) (Q : Int32 → Prop) : Prop := q7_in a1.toInt64 (0 : Int64) ((m_n - (1 : Int32)).toInt64) (fun r1 => (r1 = 0 ∨ r1 = 1) ∧ Q r1)
set_option maxHeartbeats 4000000 in
set_option maxRecDepth 100000 in
theorem c7_isThing (l : Launch) (dC : Nat → ClassId) (dI : Nat → Nat → Nat) (cs : Nat → ClassId) (ad : Nat → Nat) (m_n : Int32) (m_order : Nat → Int32) (m_shelf : Nat → Int32) (m_opens : Int32) (m_lists : Nat → Int32) (m_listed : Nat → Int32) (m_work : Nat → Int32) (m_counts : Nat → Int64) (m_older : Nat → Int64) (m_products : Nat → Int64) (m_part : Nat → Int32) (m_parts : Int32) (m_ways : Nat → Int64) (m_used : Int32) (m_greaterNow : Int32) (m_countNow : Int32) (a1 : Int32) {Q : Int32 → Prop} (hq : q7_isThing m_n a1 Q) : Met l yX7_isThing (.code yX7_isThing cX7_isThing 2 (some .boolean) :: gt) ({ frames := 1, cells := 0, slots := 0, locals := 25 } : Room) (va_Pc [.ref (ad 0), .int a1] (Pr (dC, dI) (KA cs) (wX7 cs ad m_n m_order m_shelf m_opens m_lists m_listed m_work m_counts m_older m_products m_part m_parts m_ways m_used m_greaterNow m_countNow))) (vp_Si Q) 0 0 (fun _ => False) := by
  refine Met.ofW (cc := cX7_isThing) (maxL := 2) (ret := (some .boolean)) (by decide) rfl ?_
  intro p e s m args below meth c s₁ B hml hv
  obtain ⟨rfl, hP, hK, hN⟩ := hv
  have hx := B.exec
  have hb := B.bytes
  have hr := B.returns
  have hts0 := atoms_spec (ws := (.code yX7_isThing cX7_isThing 2 (some .boolean) :: gt)) B.pre
  have hts : ∀ w ∈ gt, w.before _ s = true := fun w h => hts0 w (List.mem_cons_of_mem _ h)
  have hown : s.vm.findClass RX7 = some m.cls := findClass_of_methodNamed B.named
  have hlocks := B.notSynchronized
  have hl := lv_entry ([.ref (ad 0), .int a1]) (n := 2) (Nat.le_of_ble_eq_true rfl)
  rw [lg_entry_eq]
  generalize (lg_sl ([.ref (ad 0), .int a1]) ++ List.replicate (2 - (lg_sl ([.ref (ad 0), .int a1])).length) Slot.unset).toArray = ls at hl ⊢
  have hl : lv_has ls 2 [(0, .ref (ad 0)), (1, .int a1)] := hl
  unfold q7_isThing at hq
  refine lv_iload_n hx hb dX7_isThing_0 rfl (lv_at hl 1 rfl) ?_
  refine lv_i2l (v := a1.toInt64) hx hb dX7_isThing_1 rfl ?_
  refine lv_lconst (v := (0 : Int64)) hx hb dX7_isThing_2 (by decide) ?_
  refine lv_aload_n hx hb dX7_isThing_3 rfl (lv_at hl 0 rfl) ?_
  refine va_get (D := (dC, dI)) (ci := 7) (v := .int m_n) (C := RX7) (T := TX7) (N := 16) hx hb hts uwX7 hown hK hP 0 rfl rfl 0 (by decide) (hts _ fl_X7_7) (fun _ h9 => h9) rfl dX7_isThing_4 ?_
  refine lv_iconst (v := (1 : Int32)) hx hb dX7_isThing_7 (by decide) ?_
  refine lv_isub hx hb dX7_isThing_8 ?_
  refine lv_i2l (v := (m_n - (1 : Int32)).toInt64) hx hb dX7_isThing_9 rfl ?_
  refine roi (runS ⟨hx, hb, hml, hown, hts⟩ ws_X7_in ml_X7_51 (c7_in l dC dI cs   a1.toInt64 (0 : Int64) ((m_n - (1 : Int32)).toInt64) hq) ⟨⟨rfl, rfl⟩, by decide, by decide⟩ (preR va_P_nil hK hN) hN rfl hl.1 rfl (Nat.le_of_ble_eq_true rfl) dX7_isThing_10 ⟨(Nat.le_of_ble_eq_true rfl), (Nat.le_of_ble_eq_true rfl)⟩) (fun r2 hq => ?_)
  obtain ⟨zb, hq⟩ := hq
  exact W.zret (ty := .boolean) (v := r2) hx hb hr (by rcases zb with h9 | h9 <;> rw [h9] <;> rfl) (fun t ht hW => ⟨r2, rfl, hq, ht⟩) (fun q h => absurd h List.not_mem_nil) dX7_isThing_13
def q7_roundOf_9 (m_order : Nat → Int32)  (Q : Int32 → Prop) : Nat → Int32 → Int32 → Int32 → Prop
  | 0, _, _, _ => False
  | k9 + 1, x1, x2, x3 => (x3 = x1 → Q x2) ∧ (¬ x3 = x1 → vp_in x3 18 ∧ (q7_roundOf_9 m_order  Q k9 x1 (x2 + (1 : Int32)) (m_order x3.toNatClampNeg)))
def q7_roundOf (m_order : Nat → Int32) (a1 : Int32) (Q : Int32 → Prop) : Prop := vp_in a1 18 ∧ (∃ k, q7_roundOf_9 m_order Q k a1 (1 : Int32) (m_order a1.toNatClampNeg))
set_option maxHeartbeats 4000000 in
set_option maxRecDepth 100000 in
theorem c7_roundOf (l : Launch) (dC : Nat → ClassId) (dI : Nat → Nat → Nat) (cs : Nat → ClassId) (ad : Nat → Nat) (m_n : Int32) (m_order : Nat → Int32) (m_shelf : Nat → Int32) (m_opens : Int32) (m_lists : Nat → Int32) (m_listed : Nat → Int32) (m_work : Nat → Int32) (m_counts : Nat → Int64) (m_older : Nat → Int64) (m_products : Nat → Int64) (m_part : Nat → Int32) (m_parts : Int32) (m_ways : Nat → Int64) (m_used : Int32) (m_greaterNow : Int32) (m_countNow : Int32) (a1 : Int32) {Q : Int32 → Prop} (hq : q7_roundOf m_order a1 Q) : Met l yX7_roundOf (.code yX7_roundOf cX7_roundOf 4 (some .int) :: gt) ({ frames := 0, cells := 0, slots := 0, locals := 0 } : Room) (va_Pc [.ref (ad 0), .int a1] (Pr (dC, dI) (KA cs) (wX7 cs ad m_n m_order m_shelf m_opens m_lists m_listed m_work m_counts m_older m_products m_part m_parts m_ways m_used m_greaterNow m_countNow))) (vp_Si Q) 0 0 (fun _ => False) := by
  refine Met.ofW (cc := cX7_roundOf) (maxL := 4) (ret := (some .int)) (by decide) rfl ?_
  intro p e s m args below meth c s₁ B hml hv
  obtain ⟨rfl, hP, hK, hN⟩ := hv
  have hx := B.exec
  have hb := B.bytes
  have hr := B.returns
  have hts0 := atoms_spec (ws := (.code yX7_roundOf cX7_roundOf 4 (some .int) :: gt)) B.pre
  have hts : ∀ w ∈ gt, w.before _ s = true := fun w h => hts0 w (List.mem_cons_of_mem _ h)
  have hown : s.vm.findClass RX7 = some m.cls := findClass_of_methodNamed B.named
  have hlocks := B.notSynchronized
  have hl := lv_entry ([.ref (ad 0), .int a1]) (n := 4) (Nat.le_of_ble_eq_true rfl)
  rw [lg_entry_eq]
  generalize (lg_sl ([.ref (ad 0), .int a1]) ++ List.replicate (4 - (lg_sl ([.ref (ad 0), .int a1])).length) Slot.unset).toArray = ls at hl ⊢
  have hl : lv_has ls 4 [(0, .ref (ad 0)), (1, .int a1)] := hl
  have B9 : ∀ (k9 : Nat) (x1 : Int32) (x2 : Int32) (x3 : Int32) (ls : Array Slot), q7_roundOf_9 m_order Q k9 x1 x2 x3 → lv_has ls 4 [(0, .ref (ad 0)), (1, .int x1), (2, .int x2), (3, .int x3)] → W p l e ({ frames := 0, cells := 0, slots := 0, locals := 0 } : Room) s m ([.ref (ad 0), .int a1] : List Value).toArray below meth c s.heap [] 0 0 (MQ below (vp_Si Q) ([.ref (ad 0), .int a1] : List Value).toArray s 0 0 (fun _ => False)) (F0 m 9 ls []) := by
    intro k9
    induction k9 with
    | zero => intro x1 x2 x3 ls hq; exact False.elim hq
    | succ k9 ih9 =>
      intro x1 x2 x3 ls hq hl
      unfold q7_roundOf_9 at hq
      refine lv_iload_n hx hb dX7_roundOf_9 rfl (lv_at hl 3 rfl) ?_
      refine lv_iload_n hx hb dX7_roundOf_10 rfl (lv_at hl 1 rfl) ?_
      refine lv_icmp_eq (tgt := 27) hx hb dX7_roundOf_11 (by decide) (fun c4 => ?_) (fun c4 => ?_)
      · have hq := hq.1 c4
        refine lv_iload_n hx hb dX7_roundOf_27 rfl (lv_at hl 2 rfl) ?_
        exact W.iret (v := x2) hx hb hr (fun t ht hW => ⟨x2, rfl, hq, ht⟩) (fun q h => absurd h List.not_mem_nil) dX7_roundOf_28
      · have hq := hq.2 c4
        refine lv_iinc (v := (x2 + (1 : Int32))) (lv' := [(2, .int (x2 + (1 : Int32))), (0, .ref (ad 0)), (1, .int x1), (3, .int x3)]) hx hb dX7_roundOf_14 hl (k := 2) rfl (by rfl) (by decide) rfl (fun ls hl => ?_)
        refine lv_aload_n hx hb dX7_roundOf_17 rfl (lv_at hl 1 rfl) ?_
        refine va_get (D := (dC, dI)) (ci := 7) (v := .ref (ad 1)) (C := RX7) (T := TX7) (N := 16) hx hb hts uwX7 hown hK hP 0 rfl rfl 1 (by decide) (hts _ fl_X7_13) (fun _ h9 => h9) rfl dX7_roundOf_18 ?_
        refine lv_iload_n hx hb dX7_roundOf_21 rfl (lv_at hl 3 rfl) ?_
        obtain ⟨i5, hq⟩ := hq
        refine va_iald hx hb hK hP 1 0 rfl rfl i5 dX7_roundOf_22 ?_
        refine lv_istore_n (lv' := [(3, .int (m_order x3.toNatClampNeg)), (2, .int (x2 + (1 : Int32))), (0, .ref (ad 0)), (1, .int x1)]) hx hb dX7_roundOf_23 rfl hl (by decide) rfl (fun ls hl => ?_)
        refine lv_goto (tgt := 9) hx hb dX7_roundOf_24 (by decide) ?_
        exact ih9 x1 (x2 + (1 : Int32)) (m_order x3.toNatClampNeg) _ hq (lv_sub hl [2, 3, 1, 0] rfl)
  unfold q7_roundOf at hq
  refine lv_iconst (v := (1 : Int32)) hx hb dX7_roundOf_0 (by decide) ?_
  refine lv_istore_n (lv' := [(2, .int (1 : Int32)), (0, .ref (ad 0)), (1, .int a1)]) hx hb dX7_roundOf_1 rfl hl (by decide) rfl (fun ls hl => ?_)
  refine lv_aload_n hx hb dX7_roundOf_2 rfl (lv_at hl 1 rfl) ?_
  refine va_get (D := (dC, dI)) (ci := 7) (v := .ref (ad 1)) (C := RX7) (T := TX7) (N := 16) hx hb hts uwX7 hown hK hP 0 rfl rfl 1 (by decide) (hts _ fl_X7_13) (fun _ h9 => h9) rfl dX7_roundOf_3 ?_
  refine lv_iload_n hx hb dX7_roundOf_6 rfl (lv_at hl 2 rfl) ?_
  obtain ⟨i6, hq⟩ := hq
  refine va_iald hx hb hK hP 1 0 rfl rfl i6 dX7_roundOf_7 ?_
  refine lv_istore_n (lv' := [(3, .int (m_order a1.toNatClampNeg)), (2, .int (1 : Int32)), (0, .ref (ad 0)), (1, .int a1)]) hx hb dX7_roundOf_8 rfl hl (by decide) rfl (fun ls hl => ?_)
  obtain ⟨kf, hq⟩ := hq
  exact B9 kf a1 (1 : Int32) (m_order a1.toNatClampNeg) _ hq (lv_sub hl [2, 3, 1, 0] rfl)
def q7_isRecord_33 (m_order : Nat → Int32) (K4 : Int32 → Int32 → Int32 → Prop) (Q : Int32 → Prop) (s0 : Int32) (x1 : Int32) (x3 : Int32) : Prop := K4 x1 s0 (x3 + (1 : Int32))
def q7_isRecord_4 (m_order : Nat → Int32)  (Q : Int32 → Prop) : Nat → Int32 → Int32 → Int32 → Prop
  | 0, _, _, _ => False
  | k4 + 1, x1, x2, x3 => (x1 ≤ x3 → (x2 = 0 ∨ x2 = 1) ∧ Q x2) ∧ (¬ x1 ≤ x3 → (x2 = (0 : Int32) → q7_isRecord_33 m_order (fun v0 v1 v2 => q7_isRecord_4 m_order  Q k4 v0 v1 v2) Q (0 : Int32) x1 x3) ∧ (¬ x2 = (0 : Int32) → vp_in x3 18 ∧ (vp_in x1 18 ∧ (((m_order x1.toNatClampNeg) ≤ (m_order x3.toNatClampNeg) → q7_isRecord_33 m_order (fun v0 v1 v2 => q7_isRecord_4 m_order  Q k4 v0 v1 v2) Q (0 : Int32) x1 x3) ∧ (¬ (m_order x1.toNatClampNeg) ≤ (m_order x3.toNatClampNeg) → q7_isRecord_33 m_order (fun v0 v1 v2 => q7_isRecord_4 m_order  Q k4 v0 v1 v2) Q (1 : Int32) x1 x3)))))
def q7_isRecord (m_order : Nat → Int32) (a1 : Int32) (Q : Int32 → Prop) : Prop := ∃ k, q7_isRecord_4 m_order Q k a1 (1 : Int32) (0 : Int32)
set_option maxHeartbeats 4000000 in
set_option maxRecDepth 100000 in
theorem c7_isRecord (l : Launch) (dC : Nat → ClassId) (dI : Nat → Nat → Nat) (cs : Nat → ClassId) (ad : Nat → Nat) (m_n : Int32) (m_order : Nat → Int32) (m_shelf : Nat → Int32) (m_opens : Int32) (m_lists : Nat → Int32) (m_listed : Nat → Int32) (m_work : Nat → Int32) (m_counts : Nat → Int64) (m_older : Nat → Int64) (m_products : Nat → Int64) (m_part : Nat → Int32) (m_parts : Int32) (m_ways : Nat → Int64) (m_used : Int32) (m_greaterNow : Int32) (m_countNow : Int32) (a1 : Int32) {Q : Int32 → Prop} (hq : q7_isRecord m_order a1 Q) : Met l yX7_isRecord (.code yX7_isRecord cX7_isRecord 4 (some .boolean) :: gt) ({ frames := 0, cells := 0, slots := 0, locals := 0 } : Room) (va_Pc [.ref (ad 0), .int a1] (Pr (dC, dI) (KA cs) (wX7 cs ad m_n m_order m_shelf m_opens m_lists m_listed m_work m_counts m_older m_products m_part m_parts m_ways m_used m_greaterNow m_countNow))) (vp_Si Q) 0 0 (fun _ => False) := by
  refine Met.ofW (cc := cX7_isRecord) (maxL := 4) (ret := (some .boolean)) (by decide) rfl ?_
  intro p e s m args below meth c s₁ B hml hv
  obtain ⟨rfl, hP, hK, hN⟩ := hv
  have hx := B.exec
  have hb := B.bytes
  have hr := B.returns
  have hts0 := atoms_spec (ws := (.code yX7_isRecord cX7_isRecord 4 (some .boolean) :: gt)) B.pre
  have hts : ∀ w ∈ gt, w.before _ s = true := fun w h => hts0 w (List.mem_cons_of_mem _ h)
  have hown : s.vm.findClass RX7 = some m.cls := findClass_of_methodNamed B.named
  have hlocks := B.notSynchronized
  have hl := lv_entry ([.ref (ad 0), .int a1]) (n := 4) (Nat.le_of_ble_eq_true rfl)
  rw [lg_entry_eq]
  generalize (lg_sl ([.ref (ad 0), .int a1]) ++ List.replicate (4 - (lg_sl ([.ref (ad 0), .int a1])).length) Slot.unset).toArray = ls at hl ⊢
  have hl : lv_has ls 4 [(0, .ref (ad 0)), (1, .int a1)] := hl
  have B4 : ∀ (k4 : Nat) (x1 : Int32) (x2 : Int32) (x3 : Int32) (ls : Array Slot), q7_isRecord_4 m_order Q k4 x1 x2 x3 → lv_has ls 4 [(0, .ref (ad 0)), (1, .int x1), (2, .int x2), (3, .int x3)] → W p l e ({ frames := 0, cells := 0, slots := 0, locals := 0 } : Room) s m ([.ref (ad 0), .int a1] : List Value).toArray below meth c s.heap [] 0 0 (MQ below (vp_Si Q) ([.ref (ad 0), .int a1] : List Value).toArray s 0 0 (fun _ => False)) (F0 m 4 ls []) := by
    intro k4
    induction k4 with
    | zero => intro x1 x2 x3 ls hq; exact False.elim hq
    | succ k4 ih4 =>
      intro x1 x2 x3 ls hq hl
      have B33 : ∀ (s0 : Int32) (x1 : Int32) (x3 : Int32) (ls : Array Slot), q7_isRecord_33 m_order (fun v0 v1 v2 => q7_isRecord_4 m_order Q k4 v0 v1 v2) Q s0 x1 x3 → lv_has ls 4 [(0, .ref (ad 0)), (1, .int x1), (3, .int x3)] → W p l e ({ frames := 0, cells := 0, slots := 0, locals := 0 } : Room) s m ([.ref (ad 0), .int a1] : List Value).toArray below meth c s.heap [] 0 0 (MQ below (vp_Si Q) ([.ref (ad 0), .int a1] : List Value).toArray s 0 0 (fun _ => False)) (F0 m 33 ls [.int s0]) := by
        intro s0 x1 x3 ls hq hl
        unfold q7_isRecord_33 at hq
        refine lv_istore_n (lv' := [(2, .int s0), (0, .ref (ad 0)), (1, .int x1), (3, .int x3)]) hx hb dX7_isRecord_33 rfl hl (by decide) rfl (fun ls hl => ?_)
        refine lv_iinc (v := (x3 + (1 : Int32))) (lv' := [(3, .int (x3 + (1 : Int32))), (2, .int s0), (0, .ref (ad 0)), (1, .int x1)]) hx hb dX7_isRecord_34 hl (k := 3) rfl (by rfl) (by decide) rfl (fun ls hl => ?_)
        refine lv_goto (tgt := 4) hx hb dX7_isRecord_37 (by decide) ?_
        exact ih4 x1 s0 (x3 + (1 : Int32)) _ hq (lv_sub hl [2, 3, 1, 0] rfl)
      unfold q7_isRecord_4 at hq
      refine lv_iload_n hx hb dX7_isRecord_4 rfl (lv_at hl 3 rfl) ?_
      refine lv_iload_n hx hb dX7_isRecord_5 rfl (lv_at hl 1 rfl) ?_
      refine lv_icmp_ge (tgt := 40) hx hb dX7_isRecord_6 (by decide) (fun c6 => ?_) (fun c6 => ?_)
      · have hq := hq.1 c6
        refine lv_iload_n hx hb dX7_isRecord_40 rfl (lv_at hl 2 rfl) ?_
        obtain ⟨zb, hq⟩ := hq
        exact W.zret (ty := .boolean) (v := x2) hx hb hr (by rcases zb with h9 | h9 <;> rw [h9] <;> rfl) (fun t ht hW => ⟨x2, rfl, hq, ht⟩) (fun q h => absurd h List.not_mem_nil) dX7_isRecord_41
      · have hq := hq.2 c6
        refine lv_iload_n hx hb dX7_isRecord_9 rfl (lv_at hl 2 rfl) ?_
        refine lv_if_eq (tgt := 32) hx hb dX7_isRecord_10 (by decide) (fun c7 => ?_) (fun c7 => ?_)
        · have hq := hq.1 c7
          refine lv_iconst (v := (0 : Int32)) hx hb dX7_isRecord_32 (by decide) ?_
          exact B33 (0 : Int32) x1 x3 _ hq (lv_sub hl [0, 1, 3] rfl)
        · have hq := hq.2 c7
          refine lv_aload_n hx hb dX7_isRecord_13 rfl (lv_at hl 0 rfl) ?_
          refine va_get (D := (dC, dI)) (ci := 7) (v := .ref (ad 1)) (C := RX7) (T := TX7) (N := 16) hx hb hts uwX7 hown hK hP 0 rfl rfl 1 (by decide) (hts _ fl_X7_13) (fun _ h9 => h9) rfl dX7_isRecord_14 ?_
          refine lv_iload_n hx hb dX7_isRecord_17 rfl (lv_at hl 3 rfl) ?_
          obtain ⟨i8, hq⟩ := hq
          refine va_iald hx hb hK hP 1 0 rfl rfl i8 dX7_isRecord_18 ?_
          refine lv_aload_n hx hb dX7_isRecord_19 rfl (lv_at hl 0 rfl) ?_
          refine va_get (D := (dC, dI)) (ci := 7) (v := .ref (ad 1)) (C := RX7) (T := TX7) (N := 16) hx hb hts uwX7 hown hK hP 0 rfl rfl 1 (by decide) (hts _ fl_X7_13) (fun _ h9 => h9) rfl dX7_isRecord_20 ?_
          refine lv_iload_n hx hb dX7_isRecord_23 rfl (lv_at hl 1 rfl) ?_
          obtain ⟨i9, hq⟩ := hq
          refine va_iald hx hb hK hP 1 0 rfl rfl i9 dX7_isRecord_24 ?_
          refine lv_icmp_ge (tgt := 32) hx hb dX7_isRecord_25 (by decide) (fun c10 => ?_) (fun c10 => ?_)
          · have hq := hq.1 c10
            refine lv_iconst (v := (0 : Int32)) hx hb dX7_isRecord_32 (by decide) ?_
            exact B33 (0 : Int32) x1 x3 _ hq (lv_sub hl [0, 1, 3] rfl)
          · have hq := hq.2 c10
            refine lv_iconst (v := (1 : Int32)) hx hb dX7_isRecord_28 (by decide) ?_
            refine lv_goto (tgt := 33) hx hb dX7_isRecord_29 (by decide) ?_
            exact B33 (1 : Int32) x1 x3 _ hq (lv_sub hl [0, 1, 3] rfl)
  unfold q7_isRecord at hq
  refine lv_iconst (v := (1 : Int32)) hx hb dX7_isRecord_0 (by decide) ?_
  refine lv_istore_n (lv' := [(2, .int (1 : Int32)), (0, .ref (ad 0)), (1, .int a1)]) hx hb dX7_isRecord_1 rfl hl (by decide) rfl (fun ls hl => ?_)
  refine lv_iconst (v := (0 : Int32)) hx hb dX7_isRecord_2 (by decide) ?_
  refine lv_istore_n (lv' := [(3, .int (0 : Int32)), (2, .int (1 : Int32)), (0, .ref (ad 0)), (1, .int a1)]) hx hb dX7_isRecord_3 rfl hl (by decide) rfl (fun ls hl => ?_)
  obtain ⟨kf, hq⟩ := hq
  exact B4 kf a1 (1 : Int32) (0 : Int32) _ hq (lv_sub hl [2, 3, 1, 0] rfl)
def q7_become_2 (m_n : Int32) (m_work : Nat → Int32)  (Q : (Nat → Int32) → Prop) : Nat → Int32 → (Nat → Int32) → Prop
  | 0, _, _ => False
  | k2 + 1, x1, m_order => (m_n ≤ x1 → Q m_order) ∧ (¬ m_n ≤ x1 → vp_in x1 18 ∧ (vp_in x1 18 ∧ (q7_become_2 m_n m_work  Q k2 (x1 + (1 : Int32)) (upd m_order x1.toNatClampNeg (m_work x1.toNatClampNeg)))))
def q7_become (m_n : Int32) (m_work : Nat → Int32) (m_order : Nat → Int32) (Q : (Nat → Int32) → Prop) : Prop := ∃ k, q7_become_2 m_n m_work Q k (0 : Int32) m_order
set_option maxHeartbeats 4000000 in
set_option maxRecDepth 100000 in
theorem c7_become (l : Launch) (dC : Nat → ClassId) (dI : Nat → Nat → Nat) (cs : Nat → ClassId) (ad : Nat → Nat) (sz : Nat) (m_n : Int32) (m_order : Nat → Int32) (m_shelf : Nat → Int32) (m_opens : Int32) (m_lists : Nat → Int32) (m_listed : Nat → Int32) (m_work : Nat → Int32) (m_counts : Nat → Int64) (m_older : Nat → Int64) (m_products : Nat → Int64) (m_part : Nat → Int32) (m_parts : Int32) (m_ways : Nat → Int64) (m_used : Int32) (m_greaterNow : Int32) (m_countNow : Int32) {Q : (Nat → Int32) → Prop} (hq : q7_become m_n m_work m_order Q) : Met l yX7_become (.code yX7_become cX7_become 2 none :: gt) ({ frames := 0, cells := 0, slots := 0, locals := 0 } : Room) (va_Pc [.ref (ad 0)] (Pw (dC, dI) (KA cs) (wX7 cs ad m_n m_order m_shelf m_opens m_lists m_listed m_work m_counts m_older m_products m_part m_parts m_ways m_used m_greaterNow m_countNow) sz)) (va_Qv (fun (u : (Nat → Int32)) => Q u) (Bw (dC, dI) (KA cs) (va_A (wX7 cs ad m_n m_order m_shelf m_opens m_lists m_listed m_work m_counts m_older m_products m_part m_parts m_ways m_used m_greaterNow m_countNow) sz) (fun u : (Nat → Int32) => (wX7 cs ad m_n u m_shelf m_opens m_lists m_listed m_work m_counts m_older m_products m_part m_parts m_ways m_used m_greaterNow m_countNow))) (va_A (wX7 cs ad m_n m_order m_shelf m_opens m_lists m_listed m_work m_counts m_older m_products m_part m_parts m_ways m_used m_greaterNow m_countNow) sz)) 0 0 (va_A (wX7 cs ad m_n m_order m_shelf m_opens m_lists m_listed m_work m_counts m_older m_products m_part m_parts m_ways m_used m_greaterNow m_countNow) sz) := by
  refine Met.ofW (cc := cX7_become) (maxL := 2) (ret := none) (by decide) rfl ?_
  intro p e s m args below meth c s₁ B hml hv
  obtain ⟨rfl, hsz, hP, hK, hD0, hN⟩ := hv
  have hx := B.exec
  have hb := B.bytes
  have hr := B.returns
  have hts0 := atoms_spec (ws := (.code yX7_become cX7_become 2 none :: gt)) B.pre
  have hts : ∀ w ∈ gt, w.before _ s = true := fun w h => hts0 w (List.mem_cons_of_mem _ h)
  have hown : s.vm.findClass RX7 = some m.cls := findClass_of_methodNamed B.named
  have hlocks := B.notSynchronized
  subst hsz
  have hD := hD0.self (sz := s.heap.size)
  generalize hAe : va_A (wX7 cs ad m_n m_order m_shelf m_opens m_lists m_listed m_work m_counts m_older m_products m_part m_parts m_ways m_used m_greaterNow m_countNow) s.heap.size = A at hD ⊢
  have hA : ∀ q : Nat, s.heap.size ≤ q → A q := fun q h => by rw [← hAe]; exact Or.inr h
  have hS : va_S A s.heap s.heap [] := va_S.rf
  have hl := lv_entry ([.ref (ad 0)]) (n := 2) (Nat.le_of_ble_eq_true rfl)
  rw [lg_entry_eq]
  generalize (lg_sl ([.ref (ad 0)]) ++ List.replicate (2 - (lg_sl ([.ref (ad 0)])).length) Slot.unset).toArray = ls at hl ⊢
  have hl : lv_has ls 2 [(0, .ref (ad 0))] := hl
  have B2 : ∀ (k2 : Nat) (x1 : Int32) (m_order : Nat → Int32) (H : Heap) (locs : List Loc) (ls : Array Slot), q7_become_2 m_n m_work Q k2 x1 m_order → va_P (dC, dI) vwCl (wX7 cs ad m_n m_order m_shelf m_opens m_lists m_listed m_work m_counts m_older m_products m_part m_parts m_ways m_used m_greaterNow m_countNow) H → va_D A (wX7 cs ad m_n m_order m_shelf m_opens m_lists m_listed m_work m_counts m_older m_products m_part m_parts m_ways m_used m_greaterNow m_countNow) → va_S A s.heap H locs → lv_has ls 2 [(0, .ref (ad 0)), (1, .int x1)] → W p l e ({ frames := 0, cells := 0, slots := 0, locals := 0 } : Room) s m ([.ref (ad 0)] : List Value).toArray below meth c H locs 0 0 (MQ below (va_Qv (fun (u : (Nat → Int32)) => Q u) (Bw (dC, dI) (KA cs) A (fun u : (Nat → Int32) => (wX7 cs ad m_n u m_shelf m_opens m_lists m_listed m_work m_counts m_older m_products m_part m_parts m_ways m_used m_greaterNow m_countNow))) A) ([.ref (ad 0)] : List Value).toArray s 0 0 A) (F0 m 2 ls []) := by
    intro k2
    induction k2 with
    | zero => intro x1 m_order H locs ls hq; exact False.elim hq
    | succ k2 ih2 =>
      intro x1 m_order H locs ls hq hP hD hS hl
      unfold q7_become_2 at hq
      refine lv_iload_n hx hb dX7_become_2 rfl (lv_at hl 1 rfl) ?_
      refine lv_aload_n hx hb dX7_become_3 rfl (lv_at hl 0 rfl) ?_
      refine va_get (D := (dC, dI)) (ci := 7) (v := .int m_n) (C := RX7) (T := TX7) (N := 16) hx hb hts uwX7 hown hK hP 0 rfl rfl 0 (by decide) (hts _ fl_X7_7) (fun _ h9 => h9) rfl dX7_become_4 ?_
      refine lv_icmp_ge (tgt := 28) hx hb dX7_become_7 (by decide) (fun c4 => ?_) (fun c4 => ?_)
      · have hq := hq.1 c4
        exact W.vret hx hb hr (fun t ht hW => ⟨⟨m_order, rfl, hq, Bw_mk (by rw [ht]; exact hP) (va_K.moved hW.alike hK) hD⟩, hS.F ht⟩) hS.2.2 dX7_become_28
      · have hq := hq.2 c4
        refine lv_aload_n hx hb dX7_become_10 rfl (lv_at hl 0 rfl) ?_
        refine va_get (D := (dC, dI)) (ci := 7) (v := .ref (ad 1)) (C := RX7) (T := TX7) (N := 16) hx hb hts uwX7 hown hK hP 0 rfl rfl 1 (by decide) (hts _ fl_X7_13) (fun _ h9 => h9) rfl dX7_become_11 ?_
        refine lv_iload_n hx hb dX7_become_14 rfl (lv_at hl 1 rfl) ?_
        refine lv_aload_n hx hb dX7_become_15 rfl (lv_at hl 0 rfl) ?_
        refine va_get (D := (dC, dI)) (ci := 7) (v := .ref (ad 5)) (C := RX7) (T := TX7) (N := 16) hx hb hts uwX7 hown hK hP 0 rfl rfl 6 (by decide) (hts _ fl_X7_29) (fun _ h9 => h9) rfl dX7_become_16 ?_
        refine lv_iload_n hx hb dX7_become_19 rfl (lv_at hl 1 rfl) ?_
        obtain ⟨i5, hq⟩ := hq
        refine va_iald hx hb hK hP 5 0 rfl rfl i5 dX7_become_20 ?_
        obtain ⟨i6, hq⟩ := hq
        refine va_iast hx hb hK hP hD hS 1 0 rfl rfl i6 dX7_become_21 (fun H locs hP hD hS => ?_)
        have hP : va_P (dC, dI) vwCl (wX7 cs ad m_n (upd m_order x1.toNatClampNeg (m_work x1.toNatClampNeg)) m_shelf m_opens m_lists m_listed m_work m_counts m_older m_products m_part m_parts m_ways m_used m_greaterNow m_countNow) H := hP
        have hD : va_D A (wX7 cs ad m_n (upd m_order x1.toNatClampNeg (m_work x1.toNatClampNeg)) m_shelf m_opens m_lists m_listed m_work m_counts m_older m_products m_part m_parts m_ways m_used m_greaterNow m_countNow) := hD
        refine lv_iinc (v := (x1 + (1 : Int32))) (lv' := [(1, .int (x1 + (1 : Int32))), (0, .ref (ad 0))]) hx hb dX7_become_22 hl (k := 1) rfl (by rfl) (by decide) rfl (fun ls hl => ?_)
        refine lv_goto (tgt := 2) hx hb dX7_become_25 (by decide) ?_
        exact ih2 (x1 + (1 : Int32)) (upd m_order x1.toNatClampNeg (m_work x1.toNatClampNeg)) _ _ _ hq hP hD hS (lv_sub hl [1, 0] rfl)
  unfold q7_become at hq
  refine lv_iconst (v := (0 : Int32)) hx hb dX7_become_0 (by decide) ?_
  refine lv_istore_n (lv' := [(1, .int (0 : Int32)), (0, .ref (ad 0))]) hx hb dX7_become_1 rfl hl (by decide) rfl (fun ls hl => ?_)
  obtain ⟨kf, hq⟩ := hq
  exact B2 kf (0 : Int32) m_order _ _ _ hq hP hD hS (lv_sub hl [1, 0] rfl)
def q7_opens (m_n : Int32) (m_opens : Int32) (a1 : Int32) (Q : Int32 → Int32 → Prop) : Prop := q7_in a1.toInt64 (1 : Int64) m_n.toInt64 (fun r1 => (¬ r1 = (0 : Int32) → Q m_opens a1) ∧ (r1 = (0 : Int32) → Q (-2 : Int32) m_opens))
set_option maxHeartbeats 4000000 in
set_option maxRecDepth 100000 in
theorem c7_opens (l : Launch) (dC : Nat → ClassId) (dI : Nat → Nat → Nat) (cs : Nat → ClassId) (ad : Nat → Nat) (sz : Nat) (m_n : Int32) (m_order : Nat → Int32) (m_shelf : Nat → Int32) (m_opens : Int32) (m_lists : Nat → Int32) (m_listed : Nat → Int32) (m_work : Nat → Int32) (m_counts : Nat → Int64) (m_older : Nat → Int64) (m_products : Nat → Int64) (m_part : Nat → Int32) (m_parts : Int32) (m_ways : Nat → Int64) (m_used : Int32) (m_greaterNow : Int32) (m_countNow : Int32) (a1 : Int32) {Q : Int32 → Int32 → Prop} (hq : q7_opens m_n m_opens a1 Q) : Met l yX7_opens (.code yX7_opens cX7_opens 3 (some .int) :: gt) ({ frames := 1, cells := 0, slots := 0, locals := 25 } : Room) (va_Pc [.ref (ad 0), .int a1] (Pw (dC, dI) (KA cs) (wX7 cs ad m_n m_order m_shelf m_opens m_lists m_listed m_work m_counts m_older m_products m_part m_parts m_ways m_used m_greaterNow m_countNow) sz)) (va_Qi (fun (r : Int32) (u : Int32) => Q r u) (Bw (dC, dI) (KA cs) (va_A (wX7 cs ad m_n m_order m_shelf m_opens m_lists m_listed m_work m_counts m_older m_products m_part m_parts m_ways m_used m_greaterNow m_countNow) sz) (fun u : Int32 => (wX7 cs ad m_n m_order m_shelf u m_lists m_listed m_work m_counts m_older m_products m_part m_parts m_ways m_used m_greaterNow m_countNow))) (va_A (wX7 cs ad m_n m_order m_shelf m_opens m_lists m_listed m_work m_counts m_older m_products m_part m_parts m_ways m_used m_greaterNow m_countNow) sz)) 0 0 (va_A (wX7 cs ad m_n m_order m_shelf m_opens m_lists m_listed m_work m_counts m_older m_products m_part m_parts m_ways m_used m_greaterNow m_countNow) sz) := by
  refine Met.ofW (cc := cX7_opens) (maxL := 3) (ret := (some .int)) (by decide) rfl ?_
  intro p e s m args below meth c s₁ B hml hv
  obtain ⟨rfl, hsz, hP, hK, hD0, hN⟩ := hv
  have hx := B.exec
  have hb := B.bytes
  have hr := B.returns
  have hts0 := atoms_spec (ws := (.code yX7_opens cX7_opens 3 (some .int) :: gt)) B.pre
  have hts : ∀ w ∈ gt, w.before _ s = true := fun w h => hts0 w (List.mem_cons_of_mem _ h)
  have hown : s.vm.findClass RX7 = some m.cls := findClass_of_methodNamed B.named
  have hlocks := B.notSynchronized
  subst hsz
  have hD := hD0.self (sz := s.heap.size)
  generalize hAe : va_A (wX7 cs ad m_n m_order m_shelf m_opens m_lists m_listed m_work m_counts m_older m_products m_part m_parts m_ways m_used m_greaterNow m_countNow) s.heap.size = A at hD ⊢
  have hA : ∀ q : Nat, s.heap.size ≤ q → A q := fun q h => by rw [← hAe]; exact Or.inr h
  have hS : va_S A s.heap s.heap [] := va_S.rf
  have hl := lv_entry ([.ref (ad 0), .int a1]) (n := 3) (Nat.le_of_ble_eq_true rfl)
  rw [lg_entry_eq]
  generalize (lg_sl ([.ref (ad 0), .int a1]) ++ List.replicate (3 - (lg_sl ([.ref (ad 0), .int a1])).length) Slot.unset).toArray = ls at hl ⊢
  have hl : lv_has ls 3 [(0, .ref (ad 0)), (1, .int a1)] := hl
  unfold q7_opens at hq
  refine lv_iload_n hx hb dX7_opens_0 rfl (lv_at hl 1 rfl) ?_
  refine lv_i2l (v := a1.toInt64) hx hb dX7_opens_1 rfl ?_
  refine lv_lconst (v := (1 : Int64)) hx hb dX7_opens_2 (by decide) ?_
  refine lv_aload_n hx hb dX7_opens_3 rfl (lv_at hl 0 rfl) ?_
  refine va_get (D := (dC, dI)) (ci := 7) (v := .int m_n) (C := RX7) (T := TX7) (N := 16) hx hb hts uwX7 hown hK hP 0 rfl rfl 0 (by decide) (hts _ fl_X7_7) (fun _ h9 => h9) rfl dX7_opens_4 ?_
  refine lv_i2l (v := m_n.toInt64) hx hb dX7_opens_7 rfl ?_
  refine roi (runS ⟨hx, hb, hml, hown, hts⟩ ws_X7_in ml_X7_51 (c7_in l dC dI cs   a1.toInt64 (1 : Int64) m_n.toInt64 hq) ⟨⟨rfl, rfl⟩, by decide, by decide⟩ (preR va_P_nil hK hN) hN rfl hl.1 rfl (Nat.le_of_ble_eq_true rfl) dX7_opens_8 ⟨(Nat.le_of_ble_eq_true rfl), (Nat.le_of_ble_eq_true rfl)⟩) (fun r3 hq => ?_)
  refine lv_if_ne (tgt := 17) hx hb dX7_opens_11 (by decide) (fun c4 => ?_) (fun c4 => ?_)
  · have hq := hq.1 c4
    refine lv_aload_n hx hb dX7_opens_17 rfl (lv_at hl 0 rfl) ?_
    refine va_get (D := (dC, dI)) (ci := 7) (v := .int m_opens) (C := RX7) (T := TX7) (N := 16) hx hb hts uwX7 hown hK hP 0 rfl rfl 3 (by decide) (hts _ fl_X7_20) (fun _ h9 => h9) rfl dX7_opens_18 ?_
    refine lv_istore_n (lv' := [(2, .int m_opens), (0, .ref (ad 0)), (1, .int a1)]) hx hb dX7_opens_21 rfl hl (by decide) rfl (fun ls hl => ?_)
    refine lv_aload_n hx hb dX7_opens_22 rfl (lv_at hl 1 rfl) ?_
    refine lv_iload_n hx hb dX7_opens_23 rfl (lv_at hl 2 rfl) ?_
    refine va_put (D := (dC, dI)) (ci := 7) (v := .int a1) (ty := .int) (C := RX7) (T := TX7) (N := 16) hx hb hts uwX7 tyX7 tyX7_ok nmX7 hown hK hP hD hS 0 rfl rfl 3 (by decide) (hts _ fl_X7_20) (fun _ h9 => h9) rfl (by decide +kernel) rfl rfl (Nat.le_of_ble_eq_true rfl) dX7_opens_24 (fun H locs hP hD hS => ?_)
    have hP : va_P (dC, dI) vwCl (wX7 cs ad m_n m_order m_shelf a1 m_lists m_listed m_work m_counts m_older m_products m_part m_parts m_ways m_used m_greaterNow m_countNow) H := hP
    have hD : va_D A (wX7 cs ad m_n m_order m_shelf a1 m_lists m_listed m_work m_counts m_older m_products m_part m_parts m_ways m_used m_greaterNow m_countNow) := hD
    refine lv_iload_n hx hb dX7_opens_27 rfl (lv_at hl 0 rfl) ?_
    exact W.iret (v := m_opens) hx hb hr (fun t ht hW => ⟨⟨m_opens, a1, rfl, hq, Bw_mk (by rw [ht]; exact hP) (va_K.moved hW.alike hK) hD⟩, hS.F ht⟩) hS.2.2 dX7_opens_28
  · have hq := hq.2 c4
    refine lv_bipush (v := (-2 : Int32)) hx hb dX7_opens_14 (by decide) ?_
    exact W.iret (v := (-2 : Int32)) hx hb hr (fun t ht hW => ⟨⟨(-2 : Int32), m_opens, rfl, hq, Bw_mk (by rw [ht]; exact hP) (va_K.moved hW.alike hK) hD⟩, hS.F ht⟩) hS.2.2 dX7_opens_16
def q7_back_28 (m_n : Int32) (Q : Int32 → (Nat → Int32) → (Nat → Int32) → Prop) (m_order : Nat → Int32) (m_work : Nat → Int32) : Prop := q7_become m_n m_work m_order (fun m_order_1 => Q (1 : Int32) m_order_1 m_work)
def q7_back_2 (m_n : Int32)  (Q : Int32 → (Nat → Int32) → (Nat → Int32) → Prop) : Nat → Int32 → (Nat → Int32) → (Nat → Int32) → Prop
  | 0, _, _, _ => False
  | k2 + 1, x1, m_order, m_work => (m_n ≤ x1 → q7_back_28 m_n  Q m_order m_work) ∧ (¬ m_n ≤ x1 → vp_in x1 18 ∧ (vp_in (m_order x1.toNatClampNeg) 18 ∧ (q7_back_2 m_n  Q k2 (x1 + (1 : Int32)) m_order (upd m_work (m_order x1.toNatClampNeg).toNatClampNeg x1))))
def q7_back (m_n : Int32) (m_order : Nat → Int32) (m_work : Nat → Int32) (Q : Int32 → (Nat → Int32) → (Nat → Int32) → Prop) : Prop := ∃ k, q7_back_2 m_n Q k (0 : Int32) m_order m_work
set_option maxHeartbeats 4000000 in
set_option maxRecDepth 100000 in
theorem c7_back (l : Launch) (dC : Nat → ClassId) (dI : Nat → Nat → Nat) (cs : Nat → ClassId) (ad : Nat → Nat) (sz : Nat) (m_n : Int32) (m_order : Nat → Int32) (m_shelf : Nat → Int32) (m_opens : Int32) (m_lists : Nat → Int32) (m_listed : Nat → Int32) (m_work : Nat → Int32) (m_counts : Nat → Int64) (m_older : Nat → Int64) (m_products : Nat → Int64) (m_part : Nat → Int32) (m_parts : Int32) (m_ways : Nat → Int64) (m_used : Int32) (m_greaterNow : Int32) (m_countNow : Int32) {Q : Int32 → (Nat → Int32) → (Nat → Int32) → Prop} (hq : q7_back m_n m_order m_work Q) : Met l yX7_back (.code yX7_back cX7_back 2 (some .int) :: gt) ({ frames := 1, cells := 0, slots := 0, locals := 21 } : Room) (va_Pc [.ref (ad 0)] (Pw (dC, dI) (KA cs) (wX7 cs ad m_n m_order m_shelf m_opens m_lists m_listed m_work m_counts m_older m_products m_part m_parts m_ways m_used m_greaterNow m_countNow) sz)) (va_Qi (fun (r : Int32) (u : (Nat → Int32) × (Nat → Int32)) => Q r u.1 u.2) (Bw (dC, dI) (KA cs) (va_A (wX7 cs ad m_n m_order m_shelf m_opens m_lists m_listed m_work m_counts m_older m_products m_part m_parts m_ways m_used m_greaterNow m_countNow) sz) (fun u : (Nat → Int32) × (Nat → Int32) => (wX7 cs ad m_n u.1 m_shelf m_opens m_lists m_listed u.2 m_counts m_older m_products m_part m_parts m_ways m_used m_greaterNow m_countNow))) (va_A (wX7 cs ad m_n m_order m_shelf m_opens m_lists m_listed m_work m_counts m_older m_products m_part m_parts m_ways m_used m_greaterNow m_countNow) sz)) 0 0 (va_A (wX7 cs ad m_n m_order m_shelf m_opens m_lists m_listed m_work m_counts m_older m_products m_part m_parts m_ways m_used m_greaterNow m_countNow) sz) := by
  refine Met.ofW (cc := cX7_back) (maxL := 2) (ret := (some .int)) (by decide) rfl ?_
  intro p e s m args below meth c s₁ B hml hv
  obtain ⟨rfl, hsz, hP, hK, hD0, hN⟩ := hv
  have hx := B.exec
  have hb := B.bytes
  have hr := B.returns
  have hts0 := atoms_spec (ws := (.code yX7_back cX7_back 2 (some .int) :: gt)) B.pre
  have hts : ∀ w ∈ gt, w.before _ s = true := fun w h => hts0 w (List.mem_cons_of_mem _ h)
  have hown : s.vm.findClass RX7 = some m.cls := findClass_of_methodNamed B.named
  have hlocks := B.notSynchronized
  subst hsz
  have hD := hD0.self (sz := s.heap.size)
  generalize hAe : va_A (wX7 cs ad m_n m_order m_shelf m_opens m_lists m_listed m_work m_counts m_older m_products m_part m_parts m_ways m_used m_greaterNow m_countNow) s.heap.size = A at hD ⊢
  have hA : ∀ q : Nat, s.heap.size ≤ q → A q := fun q h => by rw [← hAe]; exact Or.inr h
  have hS : va_S A s.heap s.heap [] := va_S.rf
  have hl := lv_entry ([.ref (ad 0)]) (n := 2) (Nat.le_of_ble_eq_true rfl)
  rw [lg_entry_eq]
  generalize (lg_sl ([.ref (ad 0)]) ++ List.replicate (2 - (lg_sl ([.ref (ad 0)])).length) Slot.unset).toArray = ls at hl ⊢
  have hl : lv_has ls 2 [(0, .ref (ad 0))] := hl
  have B28 : ∀ (m_order : Nat → Int32) (m_work : Nat → Int32) (H : Heap) (locs : List Loc) (ls : Array Slot), q7_back_28 m_n Q m_order m_work → va_P (dC, dI) vwCl (wX7 cs ad m_n m_order m_shelf m_opens m_lists m_listed m_work m_counts m_older m_products m_part m_parts m_ways m_used m_greaterNow m_countNow) H → va_D A (wX7 cs ad m_n m_order m_shelf m_opens m_lists m_listed m_work m_counts m_older m_products m_part m_parts m_ways m_used m_greaterNow m_countNow) → va_S A s.heap H locs → lv_has ls 2 [(0, .ref (ad 0))] → W p l e ({ frames := 1, cells := 0, slots := 0, locals := 21 } : Room) s m ([.ref (ad 0)] : List Value).toArray below meth c H locs 0 0 (MQ below (va_Qi (fun (r : Int32) (u : (Nat → Int32) × (Nat → Int32)) => Q r u.1 u.2) (Bw (dC, dI) (KA cs) A (fun u : (Nat → Int32) × (Nat → Int32) => (wX7 cs ad m_n u.1 m_shelf m_opens m_lists m_listed u.2 m_counts m_older m_products m_part m_parts m_ways m_used m_greaterNow m_countNow))) A) ([.ref (ad 0)] : List Value).toArray s 0 0 A) (F0 m 28 ls []) := by
    intro m_order m_work H locs ls hq hP hD hS hl
    unfold q7_back_28 at hq
    refine lv_aload_n hx hb dX7_back_28 rfl (lv_at hl 0 rfl) ?_
    refine swv (runV ⟨hx, hb, hml, hown, hts⟩ wf_X7_become ml_X7_57 (c7_become l dC dI cs ad H.size m_n m_order m_shelf m_opens m_lists m_listed m_work m_counts m_older m_products m_part m_parts m_ways m_used m_greaterNow m_countNow  hq) ⟨⟨rfl, rfl⟩, by decide, by decide⟩ (preW hP hK hN hD) hK hP rfl 0 rfl rfl hl.1 rfl (Nat.le_of_ble_eq_true rfl) dX7_back_29 ⟨(Nat.le_of_ble_eq_true rfl), (Nat.le_of_ble_eq_true rfl)⟩) hD hS hA (fun  m_order_6 H locs hq hP hD hS => ?_)
    have hP : va_P (dC, dI) vwCl (wX7 cs ad m_n m_order_6 m_shelf m_opens m_lists m_listed m_work m_counts m_older m_products m_part m_parts m_ways m_used m_greaterNow m_countNow) H := hP
    have hD : va_D A (wX7 cs ad m_n m_order_6 m_shelf m_opens m_lists m_listed m_work m_counts m_older m_products m_part m_parts m_ways m_used m_greaterNow m_countNow) := hD
    refine lv_iconst (v := (1 : Int32)) hx hb dX7_back_32 (by decide) ?_
    exact W.iret (v := (1 : Int32)) hx hb hr (fun t ht hW => ⟨⟨(1 : Int32), (m_order_6, m_work), rfl, hq, Bw_mk (by rw [ht]; exact hP) (va_K.moved hW.alike hK) hD⟩, hS.F ht⟩) hS.2.2 dX7_back_33
  have B2 : ∀ (k2 : Nat) (x1 : Int32) (m_order : Nat → Int32) (m_work : Nat → Int32) (H : Heap) (locs : List Loc) (ls : Array Slot), q7_back_2 m_n Q k2 x1 m_order m_work → va_P (dC, dI) vwCl (wX7 cs ad m_n m_order m_shelf m_opens m_lists m_listed m_work m_counts m_older m_products m_part m_parts m_ways m_used m_greaterNow m_countNow) H → va_D A (wX7 cs ad m_n m_order m_shelf m_opens m_lists m_listed m_work m_counts m_older m_products m_part m_parts m_ways m_used m_greaterNow m_countNow) → va_S A s.heap H locs → lv_has ls 2 [(0, .ref (ad 0)), (1, .int x1)] → W p l e ({ frames := 1, cells := 0, slots := 0, locals := 21 } : Room) s m ([.ref (ad 0)] : List Value).toArray below meth c H locs 0 0 (MQ below (va_Qi (fun (r : Int32) (u : (Nat → Int32) × (Nat → Int32)) => Q r u.1 u.2) (Bw (dC, dI) (KA cs) A (fun u : (Nat → Int32) × (Nat → Int32) => (wX7 cs ad m_n u.1 m_shelf m_opens m_lists m_listed u.2 m_counts m_older m_products m_part m_parts m_ways m_used m_greaterNow m_countNow))) A) ([.ref (ad 0)] : List Value).toArray s 0 0 A) (F0 m 2 ls []) := by
    intro k2
    induction k2 with
    | zero => intro x1 m_order m_work H locs ls hq; exact False.elim hq
    | succ k2 ih2 =>
      intro x1 m_order m_work H locs ls hq hP hD hS hl
      unfold q7_back_2 at hq
      refine lv_iload_n hx hb dX7_back_2 rfl (lv_at hl 1 rfl) ?_
      refine lv_aload_n hx hb dX7_back_3 rfl (lv_at hl 0 rfl) ?_
      refine va_get (D := (dC, dI)) (ci := 7) (v := .int m_n) (C := RX7) (T := TX7) (N := 16) hx hb hts uwX7 hown hK hP 0 rfl rfl 0 (by decide) (hts _ fl_X7_7) (fun _ h9 => h9) rfl dX7_back_4 ?_
      refine lv_icmp_ge (tgt := 28) hx hb dX7_back_7 (by decide) (fun c8 => ?_) (fun c8 => ?_)
      · have hq := hq.1 c8
        exact B28 m_order m_work _ _ _ hq hP hD hS (lv_sub hl [0] rfl)
      · have hq := hq.2 c8
        refine lv_aload_n hx hb dX7_back_10 rfl (lv_at hl 0 rfl) ?_
        refine va_get (D := (dC, dI)) (ci := 7) (v := .ref (ad 5)) (C := RX7) (T := TX7) (N := 16) hx hb hts uwX7 hown hK hP 0 rfl rfl 6 (by decide) (hts _ fl_X7_29) (fun _ h9 => h9) rfl dX7_back_11 ?_
        refine lv_aload_n hx hb dX7_back_14 rfl (lv_at hl 0 rfl) ?_
        refine va_get (D := (dC, dI)) (ci := 7) (v := .ref (ad 1)) (C := RX7) (T := TX7) (N := 16) hx hb hts uwX7 hown hK hP 0 rfl rfl 1 (by decide) (hts _ fl_X7_13) (fun _ h9 => h9) rfl dX7_back_15 ?_
        refine lv_iload_n hx hb dX7_back_18 rfl (lv_at hl 1 rfl) ?_
        obtain ⟨i9, hq⟩ := hq
        refine va_iald hx hb hK hP 1 0 rfl rfl i9 dX7_back_19 ?_
        refine lv_iload_n hx hb dX7_back_20 rfl (lv_at hl 1 rfl) ?_
        obtain ⟨i10, hq⟩ := hq
        refine va_iast hx hb hK hP hD hS 5 0 rfl rfl i10 dX7_back_21 (fun H locs hP hD hS => ?_)
        have hP : va_P (dC, dI) vwCl (wX7 cs ad m_n m_order m_shelf m_opens m_lists m_listed (upd m_work (m_order x1.toNatClampNeg).toNatClampNeg x1) m_counts m_older m_products m_part m_parts m_ways m_used m_greaterNow m_countNow) H := hP
        have hD : va_D A (wX7 cs ad m_n m_order m_shelf m_opens m_lists m_listed (upd m_work (m_order x1.toNatClampNeg).toNatClampNeg x1) m_counts m_older m_products m_part m_parts m_ways m_used m_greaterNow m_countNow) := hD
        refine lv_iinc (v := (x1 + (1 : Int32))) (lv' := [(1, .int (x1 + (1 : Int32))), (0, .ref (ad 0))]) hx hb dX7_back_22 hl (k := 1) rfl (by rfl) (by decide) rfl (fun ls hl => ?_)
        refine lv_goto (tgt := 2) hx hb dX7_back_25 (by decide) ?_
        exact ih2 (x1 + (1 : Int32)) m_order (upd m_work (m_order x1.toNatClampNeg).toNatClampNeg x1) _ _ _ hq hP hD hS (lv_sub hl [1, 0] rfl)
  unfold q7_back at hq
  refine lv_iconst (v := (0 : Int32)) hx hb dX7_back_0 (by decide) ?_
  refine lv_istore_n (lv' := [(1, .int (0 : Int32)), (0, .ref (ad 0))]) hx hb dX7_back_1 rfl hl (by decide) rfl (fun ls hl => ?_)
  obtain ⟨kf, hq⟩ := hq
  exact B2 kf (0 : Int32) m_order m_work _ _ _ hq hP hD hS (lv_sub hl [1, 0] rfl)
