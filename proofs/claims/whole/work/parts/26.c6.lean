set_option maxHeartbeats 4000000 in
set_option maxRecDepth 100000 in
theorem c3_riseSlot (l : Launch) (dC : Nat → ClassId) (dI : Nat → Nat → Nat) (cs : Nat → ClassId) (a0 : Int32) (a1 : Int32) (a2 : Int32) {Q : Int32 → Prop} (hq : q3_riseSlot a0 a1 a2 Q) : Met l yX3_riseSlot (.code yX3_riseSlot cX3_riseSlot 3 (some .int) :: gt) ({ frames := 0, cells := 0, slots := 0, locals := 0 } : Room) (va_Pc [.int a0, .int a1, .int a2] (Pr (dC, dI) (KA cs) ([] : va_W))) (vp_Si Q) 0 0 (fun _ => False) := by
  refine Met.ofW (cc := cX3_riseSlot) (maxL := 3) (ret := (some .int)) (by decide) rfl ?_
  intro p e s m args below meth c s₁ B hml hv
  obtain ⟨rfl, hP, hK, hN⟩ := hv
  have hx := B.exec
  have hb := B.bytes
  have hr := B.returns
  have hts0 := atoms_spec (ws := (.code yX3_riseSlot cX3_riseSlot 3 (some .int) :: gt)) B.pre
  have hts : ∀ w ∈ gt, w.before _ s = true := fun w h => hts0 w (List.mem_cons_of_mem _ h)
  have hown : s.vm.findClass RX3 = some m.cls := findClass_of_methodNamed B.named
  have hlocks := B.notSynchronized
  have hl := lv_entry ([.int a0, .int a1, .int a2]) (n := 3) (Nat.le_of_ble_eq_true rfl)
  rw [lg_entry_eq]
  generalize (lg_sl ([.int a0, .int a1, .int a2]) ++ List.replicate (3 - (lg_sl ([.int a0, .int a1, .int a2])).length) Slot.unset).toArray = ls at hl ⊢
  have hl : lv_has ls 3 [(0, .int a0), (1, .int a1), (2, .int a2)] := hl
  unfold q3_riseSlot at hq
  refine lv_iload_n hx hb dX3_riseSlot_0 rfl (lv_at hl 0 rfl) ?_
  refine lv_iload_n hx hb dX3_riseSlot_1 rfl (lv_at hl 0 rfl) ?_
  refine lv_iconst (v := (1 : Int32)) hx hb dX3_riseSlot_2 (by decide) ?_
  refine lv_iadd hx hb dX3_riseSlot_3 ?_
  refine lv_imul hx hb dX3_riseSlot_4 ?_
  refine lv_iconst (v := (2 : Int32)) hx hb dX3_riseSlot_5 (by decide) ?_
  refine lv_iload_n hx hb dX3_riseSlot_6 rfl (lv_at hl 0 rfl) ?_
  refine lv_imul hx hb dX3_riseSlot_7 ?_
  refine lv_iconst (v := (1 : Int32)) hx hb dX3_riseSlot_8 (by decide) ?_
  refine lv_iadd hx hb dX3_riseSlot_9 ?_
  refine lv_imul hx hb dX3_riseSlot_10 ?_
  refine lv_bipush (v := (6 : Int32)) hx hb dX3_riseSlot_11 (by decide) ?_
  obtain ⟨z2, hq⟩ := hq
  refine lv_idiv hx hb dX3_riseSlot_13 z2 ?_
  refine lv_iload_n hx hb dX3_riseSlot_14 rfl (lv_at hl 1 rfl) ?_
  refine lv_iload_n hx hb dX3_riseSlot_15 rfl (lv_at hl 0 rfl) ?_
  refine lv_iconst (v := (1 : Int32)) hx hb dX3_riseSlot_16 (by decide) ?_
  refine lv_iadd hx hb dX3_riseSlot_17 ?_
  refine lv_imul hx hb dX3_riseSlot_18 ?_
  refine lv_iadd hx hb dX3_riseSlot_19 ?_
  refine lv_iload_n hx hb dX3_riseSlot_20 rfl (lv_at hl 2 rfl) ?_
  refine lv_iadd hx hb dX3_riseSlot_21 ?_
  exact W.iret (v := (((((a0 * (a0 + (1 : Int32))) * (((2 : Int32) * a0) + (1 : Int32))) / (6 : Int32)) + (a1 * (a0 + (1 : Int32)))) + a2)) hx hb hr (fun t ht hW => ⟨(((((a0 * (a0 + (1 : Int32))) * (((2 : Int32) * a0) + (1 : Int32))) / (6 : Int32)) + (a1 * (a0 + (1 : Int32)))) + a2), rfl, hq, ht⟩) (fun q h => absurd h List.not_mem_nil) dX3_riseSlot_22
set_option maxHeartbeats 4000000 in
set_option maxRecDepth 100000 in
theorem c3_ordersOf (l : Launch) (dC : Nat → ClassId) (dI : Nat → Nat → Nat) (cs : Nat → ClassId) (at_ : Nat → Nat) (rr : Nat → Nat) (ru : Nat → Nat) (t_fac : Nat → Int64) (t_der : Nat → Int64) (t_rec : Nat → Nat → Int64) (t_rut : Nat → Nat → Int64) (t_ris : Nat → Int64) (a1 : Int32) {Q : Int64 → Prop} (hq : q3_ordersOf t_fac a1 Q) : Met l yX3_ordersOf (.code yX3_ordersOf cX3_ordersOf 2 (some .long) :: gt) ({ frames := 1, cells := 0, slots := 0, locals := 21 } : Room) (va_Pc [.ref (at_ 0), .int a1] (Pr (dC, dI) (KA cs) (wX3 cs at_ rr ru t_fac t_der t_rec t_rut t_ris))) (vp_Sl Q) 0 0 (fun _ => False) := by
  refine Met.ofW (cc := cX3_ordersOf) (maxL := 2) (ret := (some .long)) (by decide) rfl ?_
  intro p e s m args below meth c s₁ B hml hv
  obtain ⟨rfl, hP, hK, hN⟩ := hv
  have hx := B.exec
  have hb := B.bytes
  have hr := B.returns
  have hts0 := atoms_spec (ws := (.code yX3_ordersOf cX3_ordersOf 2 (some .long) :: gt)) B.pre
  have hts : ∀ w ∈ gt, w.before _ s = true := fun w h => hts0 w (List.mem_cons_of_mem _ h)
  have hown : s.vm.findClass RX3 = some m.cls := findClass_of_methodNamed B.named
  have hlocks := B.notSynchronized
  have hl := lv_entry ([.ref (at_ 0), .int a1]) (n := 2) (Nat.le_of_ble_eq_true rfl)
  rw [lg_entry_eq]
  generalize (lg_sl ([.ref (at_ 0), .int a1]) ++ List.replicate (2 - (lg_sl ([.ref (at_ 0), .int a1])).length) Slot.unset).toArray = ls at hl ⊢
  have hl : lv_has ls 2 [(0, .ref (at_ 0)), (1, .int a1)] := hl
  unfold q3_ordersOf at hq
  refine lv_aload_n hx hb dX3_ordersOf_0 rfl (lv_at hl 0 rfl) ?_
  refine va_get (D := (dC, dI)) (ci := 3) (v := .ref (at_ 1)) (C := RX3) (T := TX3) (N := 5) hx hb hts uwX3 hown hK hP 0 rfl rfl 0 (by decide) (hts _ fl_X3_9) (fun _ h9 => h9) rfl dX3_ordersOf_1 ?_
  refine lv_iload_n hx hb dX3_ordersOf_4 rfl (lv_at hl 1 rfl) ?_
  refine rol (runSN ⟨hx, hb, hml, hown, hts⟩ ws_X6_entry (by decide +kernel) (c6_entry l dC dI cs (at_ 1) 19 t_fac a1 hq) ⟨⟨rfl, rfl⟩, by decide, by decide⟩ (preR (hP.sub (ws' := wE cs (at_ 1) 19 t_fac) [1] rfl) hK hN) hN rfl hl.1 rfl (Nat.le_of_ble_eq_true rfl) dX3_ordersOf_5 ⟨(Nat.le_of_ble_eq_true rfl), (Nat.le_of_ble_eq_true rfl)⟩) (fun r2 hq => ?_)
  exact W.lret (v := r2) hx hb hr (fun t ht hW => ⟨r2, rfl, hq, ht⟩) (fun q h => absurd h List.not_mem_nil) dX3_ordersOf_8
set_option maxHeartbeats 4000000 in
set_option maxRecDepth 100000 in
theorem c3_withStill (l : Launch) (dC : Nat → ClassId) (dI : Nat → Nat → Nat) (cs : Nat → ClassId) (at_ : Nat → Nat) (rr : Nat → Nat) (ru : Nat → Nat) (t_fac : Nat → Int64) (t_der : Nat → Int64) (t_rec : Nat → Nat → Int64) (t_rut : Nat → Nat → Int64) (t_ris : Nat → Int64) (a1 : Int32) (a2 : Int32) {Q : Int64 → Prop} (hq : q3_withStill t_der a1 a2 Q) : Met l yX3_withStill (.code yX3_withStill cX3_withStill 6 (some .long) :: gt) ({ frames := 1, cells := 0, slots := 0, locals := 21 } : Room) (va_Pc [.ref (at_ 0), .int a1, .int a2] (Pr (dC, dI) (KA cs) (wX3 cs at_ rr ru t_fac t_der t_rec t_rut t_ris))) (vp_Sl Q) 0 0 (fun _ => False) := by
  refine Met.ofW (cc := cX3_withStill) (maxL := 6) (ret := (some .long)) (by decide) rfl ?_
  intro p e s m args below meth c s₁ B hml hv
  obtain ⟨rfl, hP, hK, hN⟩ := hv
  have hx := B.exec
  have hb := B.bytes
  have hr := B.returns
  have hts0 := atoms_spec (ws := (.code yX3_withStill cX3_withStill 6 (some .long) :: gt)) B.pre
  have hts : ∀ w ∈ gt, w.before _ s = true := fun w h => hts0 w (List.mem_cons_of_mem _ h)
  have hown : s.vm.findClass RX3 = some m.cls := findClass_of_methodNamed B.named
  have hlocks := B.notSynchronized
  have hl := lv_entry ([.ref (at_ 0), .int a1, .int a2]) (n := 6) (Nat.le_of_ble_eq_true rfl)
  rw [lg_entry_eq]
  generalize (lg_sl ([.ref (at_ 0), .int a1, .int a2]) ++ List.replicate (6 - (lg_sl ([.ref (at_ 0), .int a1, .int a2])).length) Slot.unset).toArray = ls at hl ⊢
  have hl : lv_has ls 6 [(0, .ref (at_ 0)), (1, .int a1), (2, .int a2)] := hl
  have B25 : ∀ (k25 : Nat) (x1 : Int32) (x2 : Int32) (x3 : Int64) (x5 : Int32) (ls : Array Slot), q3_withStill_25 t_der Q k25 x1 x2 x3 x5 → lv_has ls 6 [(0, .ref (at_ 0)), (1, .int x1), (2, .int x2), (3, .long x3), (5, .int x5)] → W p l e ({ frames := 1, cells := 0, slots := 0, locals := 21 } : Room) s m ([.ref (at_ 0), .int a1, .int a2] : List Value).toArray below meth c s.heap [] 0 0 (MQ below (vp_Sl Q) ([.ref (at_ 0), .int a1, .int a2] : List Value).toArray s 0 0 (fun _ => False)) (F0 m 25 ls []) := by
    intro k25
    induction k25 with
    | zero => intro x1 x2 x3 x5 ls hq; exact False.elim hq
    | succ k25 ih25 =>
      intro x1 x2 x3 x5 ls hq hl
      unfold q3_withStill_25 at hq
      refine lv_iload hx hb dX3_withStill_25 (lv_at hl 4 rfl) ?_
      refine lv_iload_n hx hb dX3_withStill_27 rfl (lv_at hl 2 rfl) ?_
      refine lv_icmp_gt (tgt := 51) hx hb dX3_withStill_28 (by decide) (fun c6 => ?_) (fun c6 => ?_)
      · have hq := hq.1 c6
        refine lv_lload_n hx hb dX3_withStill_51 rfl (lv_at hl 3 rfl) ?_
        exact W.lret (v := x3) hx hb hr (fun t ht hW => ⟨x3, rfl, hq, ht⟩) (fun q h => absurd h List.not_mem_nil) dX3_withStill_52
      · have hq := hq.2 c6
        refine lv_lload_n hx hb dX3_withStill_31 rfl (lv_at hl 3 rfl) ?_
        refine lv_iload_n hx hb dX3_withStill_32 rfl (lv_at hl 1 rfl) ?_
        refine lv_iload_n hx hb dX3_withStill_33 rfl (lv_at hl 2 rfl) ?_
        refine lv_isub hx hb dX3_withStill_34 ?_
        refine lv_iload hx hb dX3_withStill_35 (lv_at hl 4 rfl) ?_
        refine lv_iadd hx hb dX3_withStill_37 ?_
        refine lv_i2l (v := ((x1 - x2) + x5).toInt64) hx hb dX3_withStill_38 rfl ?_
        refine lv_lmul hx hb dX3_withStill_39 ?_
        refine lv_iload hx hb dX3_withStill_40 (lv_at hl 4 rfl) ?_
        refine lv_i2l (v := x5.toInt64) hx hb dX3_withStill_42 rfl ?_
        obtain ⟨z7, hq⟩ := hq
        refine lv_ldiv hx hb dX3_withStill_43 z7 ?_
        refine lv_lstore_n (lv' := [(3, .long ((x3 * ((x1 - x2) + x5).toInt64) / x5.toInt64)), (0, .ref (at_ 0)), (1, .int x1), (2, .int x2), (5, .int x5)]) hx hb dX3_withStill_44 rfl hl (by decide) rfl (fun ls hl => ?_)
        refine lv_iinc (v := (x5 + (1 : Int32))) (lv' := [(5, .int (x5 + (1 : Int32))), (3, .long ((x3 * ((x1 - x2) + x5).toInt64) / x5.toInt64)), (0, .ref (at_ 0)), (1, .int x1), (2, .int x2)]) hx hb dX3_withStill_45 hl (k := 4) rfl (by rfl) (by decide) rfl (fun ls hl => ?_)
        refine lv_goto (tgt := 25) hx hb dX3_withStill_48 (by decide) ?_
        exact ih25 x1 x2 ((x3 * ((x1 - x2) + x5).toInt64) / x5.toInt64) (x5 + (1 : Int32)) _ hq (lv_sub hl [2, 3, 4, 1, 0] rfl)
  unfold q3_withStill at hq
  refine lv_iload_n hx hb dX3_withStill_0 rfl (lv_at hl 2 rfl) ?_
  refine lv_if_lt (tgt := 9) hx hb dX3_withStill_1 (by decide) (fun c8 => ?_) (fun c8 => ?_)
  · have hq := hq.1 c8
    refine lv_lconst (v := (0 : Int64)) hx hb dX3_withStill_9 (by decide) ?_
    exact W.lret (v := (0 : Int64)) hx hb hr (fun t ht hW => ⟨(0 : Int64), rfl, hq, ht⟩) (fun q h => absurd h List.not_mem_nil) dX3_withStill_10
  · have hq := hq.2 c8
    refine lv_iload_n hx hb dX3_withStill_4 rfl (lv_at hl 2 rfl) ?_
    refine lv_iload_n hx hb dX3_withStill_5 rfl (lv_at hl 1 rfl) ?_
    refine lv_icmp_le (tgt := 11) hx hb dX3_withStill_6 (by decide) (fun c9 => ?_) (fun c9 => ?_)
    · have hq := hq.1 c9
      refine lv_aload_n hx hb dX3_withStill_11 rfl (lv_at hl 0 rfl) ?_
      refine va_get (D := (dC, dI)) (ci := 3) (v := .ref (at_ 2)) (C := RX3) (T := TX3) (N := 5) hx hb hts uwX3 hown hK hP 0 rfl rfl 1 (by decide) (hts _ fl_X3_15) (fun _ h9 => h9) rfl dX3_withStill_12 ?_
      refine lv_iload_n hx hb dX3_withStill_15 rfl (lv_at hl 1 rfl) ?_
      refine lv_iload_n hx hb dX3_withStill_16 rfl (lv_at hl 2 rfl) ?_
      refine lv_isub hx hb dX3_withStill_17 ?_
      refine rol (runSN ⟨hx, hb, hml, hown, hts⟩ ws_X6_entry (by decide +kernel) (c6_entry l dC dI cs (at_ 2) 19 t_der (a1 - a2) hq) ⟨⟨rfl, rfl⟩, by decide, by decide⟩ (preR (hP.sub (ws' := wE cs (at_ 2) 19 t_der) [2] rfl) hK hN) hN rfl hl.1 rfl (Nat.le_of_ble_eq_true rfl) dX3_withStill_18 ⟨(Nat.le_of_ble_eq_true rfl), (Nat.le_of_ble_eq_true rfl)⟩) (fun r10 hq => ?_)
      refine lv_lstore_n (lv' := [(3, .long r10), (0, .ref (at_ 0)), (1, .int a1), (2, .int a2)]) hx hb dX3_withStill_21 rfl hl (by decide) rfl (fun ls hl => ?_)
      refine lv_iconst (v := (1 : Int32)) hx hb dX3_withStill_22 (by decide) ?_
      refine lv_istore (lv' := [(5, .int (1 : Int32)), (3, .long r10), (0, .ref (at_ 0)), (1, .int a1), (2, .int a2)]) hx hb dX3_withStill_23 hl (by decide) rfl (fun ls hl => ?_)
      obtain ⟨kf, hq⟩ := hq
      exact B25 kf a1 a2 r10 (1 : Int32) _ hq (lv_sub hl [2, 3, 4, 1, 0] rfl)
    · have hq := hq.2 c9
      refine lv_lconst (v := (0 : Int64)) hx hb dX3_withStill_9 (by decide) ?_
      exact W.lret (v := (0 : Int64)) hx hb hr (fun t ht hW => ⟨(0 : Int64), rfl, hq, ht⟩) (fun q h => absurd h List.not_mem_nil) dX3_withStill_10
set_option maxHeartbeats 4000000 in
set_option maxRecDepth 100000 in
theorem c3_withRoundsUpTo (l : Launch) (dC : Nat → ClassId) (dI : Nat → Nat → Nat) (cs : Nat → ClassId) (at_ : Nat → Nat) (rr : Nat → Nat) (ru : Nat → Nat) (t_fac : Nat → Int64) (t_der : Nat → Int64) (t_rec : Nat → Nat → Int64) (t_rut : Nat → Nat → Int64) (t_ris : Nat → Int64) (a1 : Int32) (a2 : Int32) {Q : Int64 → Prop} (hq : q3_withRoundsUpTo t_rut a1 a2 Q) : Met l yX3_withRoundsUpTo (.code yX3_withRoundsUpTo cX3_withRoundsUpTo 3 (some .long) :: gt) ({ frames := 1, cells := 0, slots := 0, locals := 21 } : Room) (va_Pc [.ref (at_ 0), .int a1, .int a2] (Pr (dC, dI) (KA cs) (wX3 cs at_ rr ru t_fac t_der t_rec t_rut t_ris))) (vp_Sl Q) 0 0 (fun _ => False) := by
  refine Met.ofW (cc := cX3_withRoundsUpTo) (maxL := 3) (ret := (some .long)) (by decide) rfl ?_
  intro p e s m args below meth c s₁ B hml hv
  obtain ⟨rfl, hP, hK, hN⟩ := hv
  have hx := B.exec
  have hb := B.bytes
  have hr := B.returns
  have hts0 := atoms_spec (ws := (.code yX3_withRoundsUpTo cX3_withRoundsUpTo 3 (some .long) :: gt)) B.pre
  have hts : ∀ w ∈ gt, w.before _ s = true := fun w h => hts0 w (List.mem_cons_of_mem _ h)
  have hown : s.vm.findClass RX3 = some m.cls := findClass_of_methodNamed B.named
  have hlocks := B.notSynchronized
  have hl := lv_entry ([.ref (at_ 0), .int a1, .int a2]) (n := 3) (Nat.le_of_ble_eq_true rfl)
  rw [lg_entry_eq]
  generalize (lg_sl ([.ref (at_ 0), .int a1, .int a2]) ++ List.replicate (3 - (lg_sl ([.ref (at_ 0), .int a1, .int a2])).length) Slot.unset).toArray = ls at hl ⊢
  have hl : lv_has ls 3 [(0, .ref (at_ 0)), (1, .int a1), (2, .int a2)] := hl
  unfold q3_withRoundsUpTo at hq
  refine lv_iload_n hx hb dX3_withRoundsUpTo_0 rfl (lv_at hl 1 rfl) ?_
  refine lv_if_lt (tgt := 23) hx hb dX3_withRoundsUpTo_1 (by decide) (fun c5 => ?_) (fun c5 => ?_)
  · have hq := hq.1 c5
    refine lv_lconst (v := (0 : Int64)) hx hb dX3_withRoundsUpTo_23 (by decide) ?_
    exact W.lret (v := (0 : Int64)) hx hb hr (fun t ht hW => ⟨(0 : Int64), rfl, hq, ht⟩) (fun q h => absurd h List.not_mem_nil) dX3_withRoundsUpTo_24
  · have hq := hq.2 c5
    refine lv_iload_n hx hb dX3_withRoundsUpTo_4 rfl (lv_at hl 1 rfl) ?_
    refine lv_bipush (v := (18 : Int32)) hx hb dX3_withRoundsUpTo_5 (by decide) ?_
    refine lv_icmp_gt (tgt := 23) hx hb dX3_withRoundsUpTo_7 (by decide) (fun c6 => ?_) (fun c6 => ?_)
    · have hq := hq.1 c6
      refine lv_lconst (v := (0 : Int64)) hx hb dX3_withRoundsUpTo_23 (by decide) ?_
      exact W.lret (v := (0 : Int64)) hx hb hr (fun t ht hW => ⟨(0 : Int64), rfl, hq, ht⟩) (fun q h => absurd h List.not_mem_nil) dX3_withRoundsUpTo_24
    · have hq := hq.2 c6
      refine lv_aload_n hx hb dX3_withRoundsUpTo_10 rfl (lv_at hl 0 rfl) ?_
      refine va_get (D := (dC, dI)) (ci := 3) (v := .ref (at_ 4)) (C := RX3) (T := TX3) (N := 5) hx hb hts uwX3 hown hK hP 0 rfl rfl 3 (by decide) (hts _ fl_X3_23) (fun _ h9 => h9) rfl dX3_withRoundsUpTo_11 ?_
      refine lv_iload_n hx hb dX3_withRoundsUpTo_14 rfl (lv_at hl 1 rfl) ?_
      obtain ⟨i7, hq⟩ := hq
      refine va_alda hx hb hK hP 4 6 rfl rfl i7 dX3_withRoundsUpTo_15 ?_
      refine W.eq (g2 := F0 m 16 ls (.ref (ru a1.toNatClampNeg) :: [])) rfl ?_
      refine lv_iload_n hx hb dX3_withRoundsUpTo_16 rfl (lv_at hl 2 rfl) ?_
      refine rol (runSN ⟨hx, hb, hml, hown, hts⟩ ws_X6_entry (by decide +kernel) (c6_entry l dC dI cs (ru a1.toNatClampNeg) 19 (t_rut a1.toNatClampNeg) a2 hq) ⟨⟨rfl, rfl⟩, by decide, by decide⟩ (preR (va_P_one hP (25 + a1.toNatClampNeg) (fam_get_wX3_7 (vp_lt i7))) hK hN) hN rfl hl.1 rfl (Nat.le_of_ble_eq_true rfl) dX3_withRoundsUpTo_17 ⟨(Nat.le_of_ble_eq_true rfl), (Nat.le_of_ble_eq_true rfl)⟩) (fun r8 hq => ?_)
      refine lv_goto (tgt := 24) hx hb dX3_withRoundsUpTo_20 (by decide) ?_
      exact W.lret (v := r8) hx hb hr (fun t ht hW => ⟨r8, rfl, hq, ht⟩) (fun q h => absurd h List.not_mem_nil) dX3_withRoundsUpTo_24
set_option maxHeartbeats 4000000 in
set_option maxRecDepth 100000 in
theorem c3_withRecords (l : Launch) (dC : Nat → ClassId) (dI : Nat → Nat → Nat) (cs : Nat → ClassId) (at_ : Nat → Nat) (rr : Nat → Nat) (ru : Nat → Nat) (t_fac : Nat → Int64) (t_der : Nat → Int64) (t_rec : Nat → Nat → Int64) (t_rut : Nat → Nat → Int64) (t_ris : Nat → Int64) (a1 : Int32) (a2 : Int32) (a3 : Int32) {Q : Int64 → Prop} (hq : q3_withRecords t_rec a1 a2 a3 Q) : Met l yX3_withRecords (.code yX3_withRecords cX3_withRecords 7 (some .long) :: gt) ({ frames := 1, cells := 0, slots := 0, locals := 21 } : Room) (va_Pc [.ref (at_ 0), .int a1, .int a2, .int a3] (Pr (dC, dI) (KA cs) (wX3 cs at_ rr ru t_fac t_der t_rec t_rut t_ris))) (vp_Sl Q) 0 0 (fun _ => False) := by
  refine Met.ofW (cc := cX3_withRecords) (maxL := 7) (ret := (some .long)) (by decide) rfl ?_
  intro p e s m args below meth c s₁ B hml hv
  obtain ⟨rfl, hP, hK, hN⟩ := hv
  have hx := B.exec
  have hb := B.bytes
  have hr := B.returns
  have hts0 := atoms_spec (ws := (.code yX3_withRecords cX3_withRecords 7 (some .long) :: gt)) B.pre
  have hts : ∀ w ∈ gt, w.before _ s = true := fun w h => hts0 w (List.mem_cons_of_mem _ h)
  have hown : s.vm.findClass RX3 = some m.cls := findClass_of_methodNamed B.named
  have hlocks := B.notSynchronized
  have hl := lv_entry ([.ref (at_ 0), .int a1, .int a2, .int a3]) (n := 7) (Nat.le_of_ble_eq_true rfl)
  rw [lg_entry_eq]
  generalize (lg_sl ([.ref (at_ 0), .int a1, .int a2, .int a3]) ++ List.replicate (7 - (lg_sl ([.ref (at_ 0), .int a1, .int a2, .int a3])).length) Slot.unset).toArray = ls at hl ⊢
  have hl : lv_has ls 7 [(0, .ref (at_ 0)), (1, .int a1), (2, .int a2), (3, .int a3)] := hl
  have B34 : ∀ (k34 : Nat) (x1 : Int32) (x4 : Int64) (x6 : Int32) (ls : Array Slot), q3_withRecords_34 t_rec Q k34 x1 x4 x6 → lv_has ls 7 [(0, .ref (at_ 0)), (1, .int x1), (4, .long x4), (6, .int x6)] → W p l e ({ frames := 1, cells := 0, slots := 0, locals := 21 } : Room) s m ([.ref (at_ 0), .int a1, .int a2, .int a3] : List Value).toArray below meth c s.heap [] 0 0 (MQ below (vp_Sl Q) ([.ref (at_ 0), .int a1, .int a2, .int a3] : List Value).toArray s 0 0 (fun _ => False)) (F0 m 34 ls []) := by
    intro k34
    induction k34 with
    | zero => intro x1 x4 x6 ls hq; exact False.elim hq
    | succ k34 ih34 =>
      intro x1 x4 x6 ls hq hl
      unfold q3_withRecords_34 at hq
      refine lv_iload hx hb dX3_withRecords_34 (lv_at hl 3 rfl) ?_
      refine lv_iload_n hx hb dX3_withRecords_36 rfl (lv_at hl 1 rfl) ?_
      refine lv_icmp_gt (tgt := 54) hx hb dX3_withRecords_37 (by decide) (fun c7 => ?_) (fun c7 => ?_)
      · have hq := hq.1 c7
        refine lv_lload hx hb dX3_withRecords_54 (lv_at hl 2 rfl) ?_
        exact W.lret (v := x4) hx hb hr (fun t ht hW => ⟨x4, rfl, hq, ht⟩) (fun q h => absurd h List.not_mem_nil) dX3_withRecords_56
      · have hq := hq.2 c7
        refine lv_lload hx hb dX3_withRecords_40 (lv_at hl 2 rfl) ?_
        refine lv_iload hx hb dX3_withRecords_42 (lv_at hl 3 rfl) ?_
        refine lv_i2l (v := x6.toInt64) hx hb dX3_withRecords_44 rfl ?_
        refine lv_lmul hx hb dX3_withRecords_45 ?_
        refine lv_lstore (lv' := [(4, .long (x4 * x6.toInt64)), (0, .ref (at_ 0)), (1, .int x1), (6, .int x6)]) hx hb dX3_withRecords_46 hl (by decide) rfl (fun ls hl => ?_)
        refine lv_iinc (v := (x6 + (1 : Int32))) (lv' := [(6, .int (x6 + (1 : Int32))), (4, .long (x4 * x6.toInt64)), (0, .ref (at_ 0)), (1, .int x1)]) hx hb dX3_withRecords_48 hl (k := 3) rfl (by rfl) (by decide) rfl (fun ls hl => ?_)
        refine lv_goto (tgt := 34) hx hb dX3_withRecords_51 (by decide) ?_
        exact ih34 x1 (x4 * x6.toInt64) (x6 + (1 : Int32)) _ hq (lv_sub hl [2, 3, 1, 0] rfl)
  unfold q3_withRecords at hq
  refine lv_iload_n hx hb dX3_withRecords_0 rfl (lv_at hl 2 rfl) ?_
  refine lv_if_lt (tgt := 15) hx hb dX3_withRecords_1 (by decide) (fun c8 => ?_) (fun c8 => ?_)
  · have hq := hq.1 c8
    refine lv_lconst (v := (0 : Int64)) hx hb dX3_withRecords_15 (by decide) ?_
    exact W.lret (v := (0 : Int64)) hx hb hr (fun t ht hW => ⟨(0 : Int64), rfl, hq, ht⟩) (fun q h => absurd h List.not_mem_nil) dX3_withRecords_16
  · have hq := hq.2 c8
    refine lv_iload_n hx hb dX3_withRecords_4 rfl (lv_at hl 2 rfl) ?_
    refine lv_iload_n hx hb dX3_withRecords_5 rfl (lv_at hl 1 rfl) ?_
    refine lv_icmp_gt (tgt := 15) hx hb dX3_withRecords_6 (by decide) (fun c9 => ?_) (fun c9 => ?_)
    · have hq := hq.1 c9
      refine lv_lconst (v := (0 : Int64)) hx hb dX3_withRecords_15 (by decide) ?_
      exact W.lret (v := (0 : Int64)) hx hb hr (fun t ht hW => ⟨(0 : Int64), rfl, hq, ht⟩) (fun q h => absurd h List.not_mem_nil) dX3_withRecords_16
    · have hq := hq.2 c9
      refine lv_iload_n hx hb dX3_withRecords_9 rfl (lv_at hl 1 rfl) ?_
      refine lv_bipush (v := (18 : Int32)) hx hb dX3_withRecords_10 (by decide) ?_
      refine lv_icmp_le (tgt := 17) hx hb dX3_withRecords_12 (by decide) (fun c10 => ?_) (fun c10 => ?_)
      · have hq := hq.1 c10
        refine lv_aload_n hx hb dX3_withRecords_17 rfl (lv_at hl 0 rfl) ?_
        refine va_get (D := (dC, dI)) (ci := 3) (v := .ref (at_ 3)) (C := RX3) (T := TX3) (N := 5) hx hb hts uwX3 hown hK hP 0 rfl rfl 2 (by decide) (hts _ fl_X3_20) (fun _ h9 => h9) rfl dX3_withRecords_18 ?_
        refine lv_iload_n hx hb dX3_withRecords_21 rfl (lv_at hl 2 rfl) ?_
        obtain ⟨i11, hq⟩ := hq
        refine va_alda hx hb hK hP 3 6 rfl rfl i11 dX3_withRecords_22 ?_
        refine W.eq (g2 := F0 m 23 ls (.ref (rr a2.toNatClampNeg) :: [])) rfl ?_
        refine lv_iload_n hx hb dX3_withRecords_23 rfl (lv_at hl 3 rfl) ?_
        refine rol (runSN ⟨hx, hb, hml, hown, hts⟩ ws_X6_entry (by decide +kernel) (c6_entry l dC dI cs (rr a2.toNatClampNeg) 19 (t_rec a2.toNatClampNeg) a3 hq) ⟨⟨rfl, rfl⟩, by decide, by decide⟩ (preR (va_P_one hP (6 + a2.toNatClampNeg) (fam_get_wX3_6 (vp_lt i11))) hK hN) hN rfl hl.1 rfl (Nat.le_of_ble_eq_true rfl) dX3_withRecords_24 ⟨(Nat.le_of_ble_eq_true rfl), (Nat.le_of_ble_eq_true rfl)⟩) (fun r12 hq => ?_)
        refine lv_lstore (lv' := [(4, .long r12), (0, .ref (at_ 0)), (1, .int a1), (2, .int a2), (3, .int a3)]) hx hb dX3_withRecords_27 hl (by decide) rfl (fun ls hl => ?_)
        refine lv_iload_n hx hb dX3_withRecords_29 rfl (lv_at hl 3 rfl) ?_
        refine lv_iconst (v := (1 : Int32)) hx hb dX3_withRecords_30 (by decide) ?_
        refine lv_iadd hx hb dX3_withRecords_31 ?_
        refine lv_istore (lv' := [(6, .int (a2 + (1 : Int32))), (4, .long r12), (0, .ref (at_ 0)), (1, .int a1), (2, .int a2), (3, .int a3)]) hx hb dX3_withRecords_32 hl (by decide) rfl (fun ls hl => ?_)
        obtain ⟨kf, hq⟩ := hq
        exact B34 kf a1 r12 (a2 + (1 : Int32)) _ hq (lv_sub hl [2, 3, 1, 0] rfl)
      · have hq := hq.2 c10
        refine lv_lconst (v := (0 : Int64)) hx hb dX3_withRecords_15 (by decide) ?_
        exact W.lret (v := (0 : Int64)) hx hb hr (fun t ht hW => ⟨(0 : Int64), rfl, hq, ht⟩) (fun q h => absurd h List.not_mem_nil) dX3_withRecords_16
set_option maxHeartbeats 4000000 in
set_option maxRecDepth 100000 in
theorem c3_withRises (l : Launch) (dC : Nat → ClassId) (dI : Nat → Nat → Nat) (cs : Nat → ClassId) (at_ : Nat → Nat) (rr : Nat → Nat) (ru : Nat → Nat) (t_fac : Nat → Int64) (t_der : Nat → Int64) (t_rec : Nat → Nat → Int64) (t_rut : Nat → Nat → Int64) (t_ris : Nat → Int64) (a1 : Int32) (a2 : Int32) (a3 : Int32) {Q : Int64 → Prop} (hq : q3_withRises t_ris a1 a2 a3 Q) : Met l yX3_withRises (.code yX3_withRises cX3_withRises 4 (some .long) :: gt) ({ frames := 1, cells := 0, slots := 0, locals := 22 } : Room) (va_Pc [.ref (at_ 0), .int a1, .int a2, .int a3] (Pr (dC, dI) (KA cs) (wX3 cs at_ rr ru t_fac t_der t_rec t_rut t_ris))) (vp_Sl Q) 0 0 (fun _ => False) := by
  refine Met.ofW (cc := cX3_withRises) (maxL := 4) (ret := (some .long)) (by decide) rfl ?_
  intro p e s m args below meth c s₁ B hml hv
  obtain ⟨rfl, hP, hK, hN⟩ := hv
  have hx := B.exec
  have hb := B.bytes
  have hr := B.returns
  have hts0 := atoms_spec (ws := (.code yX3_withRises cX3_withRises 4 (some .long) :: gt)) B.pre
  have hts : ∀ w ∈ gt, w.before _ s = true := fun w h => hts0 w (List.mem_cons_of_mem _ h)
  have hown : s.vm.findClass RX3 = some m.cls := findClass_of_methodNamed B.named
  have hlocks := B.notSynchronized
  have hl := lv_entry ([.ref (at_ 0), .int a1, .int a2, .int a3]) (n := 4) (Nat.le_of_ble_eq_true rfl)
  rw [lg_entry_eq]
  generalize (lg_sl ([.ref (at_ 0), .int a1, .int a2, .int a3]) ++ List.replicate (4 - (lg_sl ([.ref (at_ 0), .int a1, .int a2, .int a3])).length) Slot.unset).toArray = ls at hl ⊢
  have hl : lv_has ls 4 [(0, .ref (at_ 0)), (1, .int a1), (2, .int a2), (3, .int a3)] := hl
  unfold q3_withRises at hq
  refine lv_iload_n hx hb dX3_withRises_0 rfl (lv_at hl 1 rfl) ?_
  refine lv_if_lt (tgt := 28) hx hb dX3_withRises_1 (by decide) (fun c9 => ?_) (fun c9 => ?_)
  · have hq := hq.1 c9
    refine lv_lconst (v := (0 : Int64)) hx hb dX3_withRises_28 (by decide) ?_
    exact W.lret (v := (0 : Int64)) hx hb hr (fun t ht hW => ⟨(0 : Int64), rfl, hq, ht⟩) (fun q h => absurd h List.not_mem_nil) dX3_withRises_29
  · have hq := hq.2 c9
    refine lv_iload_n hx hb dX3_withRises_4 rfl (lv_at hl 1 rfl) ?_
    refine lv_bipush (v := (18 : Int32)) hx hb dX3_withRises_5 (by decide) ?_
    refine lv_icmp_gt (tgt := 28) hx hb dX3_withRises_7 (by decide) (fun c10 => ?_) (fun c10 => ?_)
    · have hq := hq.1 c10
      refine lv_lconst (v := (0 : Int64)) hx hb dX3_withRises_28 (by decide) ?_
      exact W.lret (v := (0 : Int64)) hx hb hr (fun t ht hW => ⟨(0 : Int64), rfl, hq, ht⟩) (fun q h => absurd h List.not_mem_nil) dX3_withRises_29
    · have hq := hq.2 c10
      refine lv_iload_n hx hb dX3_withRises_10 rfl (lv_at hl 2 rfl) ?_
      refine lv_if_lt (tgt := 28) hx hb dX3_withRises_11 (by decide) (fun c11 => ?_) (fun c11 => ?_)
      · have hq := hq.1 c11
        refine lv_lconst (v := (0 : Int64)) hx hb dX3_withRises_28 (by decide) ?_
        exact W.lret (v := (0 : Int64)) hx hb hr (fun t ht hW => ⟨(0 : Int64), rfl, hq, ht⟩) (fun q h => absurd h List.not_mem_nil) dX3_withRises_29
      · have hq := hq.2 c11
        refine lv_iload_n hx hb dX3_withRises_14 rfl (lv_at hl 2 rfl) ?_
        refine lv_iload_n hx hb dX3_withRises_15 rfl (lv_at hl 1 rfl) ?_
        refine lv_icmp_gt (tgt := 28) hx hb dX3_withRises_16 (by decide) (fun c12 => ?_) (fun c12 => ?_)
        · have hq := hq.1 c12
          refine lv_lconst (v := (0 : Int64)) hx hb dX3_withRises_28 (by decide) ?_
          exact W.lret (v := (0 : Int64)) hx hb hr (fun t ht hW => ⟨(0 : Int64), rfl, hq, ht⟩) (fun q h => absurd h List.not_mem_nil) dX3_withRises_29
        · have hq := hq.2 c12
          refine lv_iload_n hx hb dX3_withRises_19 rfl (lv_at hl 3 rfl) ?_
          refine lv_if_lt (tgt := 28) hx hb dX3_withRises_20 (by decide) (fun c13 => ?_) (fun c13 => ?_)
          · have hq := hq.1 c13
            refine lv_lconst (v := (0 : Int64)) hx hb dX3_withRises_28 (by decide) ?_
            exact W.lret (v := (0 : Int64)) hx hb hr (fun t ht hW => ⟨(0 : Int64), rfl, hq, ht⟩) (fun q h => absurd h List.not_mem_nil) dX3_withRises_29
          · have hq := hq.2 c13
            refine lv_iload_n hx hb dX3_withRises_23 rfl (lv_at hl 3 rfl) ?_
            refine lv_iload_n hx hb dX3_withRises_24 rfl (lv_at hl 1 rfl) ?_
            refine lv_icmp_le (tgt := 30) hx hb dX3_withRises_25 (by decide) (fun c14 => ?_) (fun c14 => ?_)
            · have hq := hq.1 c14
              refine lv_aload_n hx hb dX3_withRises_30 rfl (lv_at hl 0 rfl) ?_
              refine va_get (D := (dC, dI)) (ci := 3) (v := .ref (at_ 5)) (C := RX3) (T := TX3) (N := 5) hx hb hts uwX3 hown hK hP 0 rfl rfl 4 (by decide) (hts _ fl_X3_30) (fun _ h9 => h9) rfl dX3_withRises_31 ?_
              refine lv_iload_n hx hb dX3_withRises_34 rfl (lv_at hl 1 rfl) ?_
              refine lv_iload_n hx hb dX3_withRises_35 rfl (lv_at hl 2 rfl) ?_
              refine lv_iload_n hx hb dX3_withRises_36 rfl (lv_at hl 3 rfl) ?_
              refine roi (runS ⟨hx, hb, hml, hown, hts⟩ ws_X3_riseSlot ml_X3_26 (c3_riseSlot l dC dI cs   a1 a2 a3 hq) ⟨⟨rfl, rfl⟩, by decide, by decide⟩ (preR va_P_nil hK hN) hN rfl hl.1 rfl (Nat.le_of_ble_eq_true rfl) dX3_withRises_37 ⟨(Nat.le_of_ble_eq_true rfl), (Nat.le_of_ble_eq_true rfl)⟩) (fun r15 hq => ?_)
              refine rol (runSN ⟨hx, hb, hml, hown, hts⟩ ws_X6_entry (by decide +kernel) (c6_entry l dC dI cs (at_ 5) 2470 t_ris r15 hq) ⟨⟨rfl, rfl⟩, by decide, by decide⟩ (preR (hP.sub (ws' := wE cs (at_ 5) 2470 t_ris) [5] rfl) hK hN) hN rfl hl.1 rfl (Nat.le_of_ble_eq_true rfl) dX3_withRises_40 ⟨(Nat.le_of_ble_eq_true rfl), (Nat.le_of_ble_eq_true rfl)⟩) (fun r16 hq => ?_)
              exact W.lret (v := r16) hx hb hr (fun t ht hW => ⟨r16, rfl, hq, ht⟩) (fun q h => absurd h List.not_mem_nil) dX3_withRises_43
            · have hq := hq.2 c14
              refine lv_lconst (v := (0 : Int64)) hx hb dX3_withRises_28 (by decide) ?_
              exact W.lret (v := (0 : Int64)) hx hb hr (fun t ht hW => ⟨(0 : Int64), rfl, hq, ht⟩) (fun q h => absurd h List.not_mem_nil) dX3_withRises_29
set_option maxHeartbeats 4000000 in
set_option maxRecDepth 100000 in
theorem c3_fillRisesByBelow (l : Launch) (dC : Nat → ClassId) (dI : Nat → Nat → Nat) (cs : Nat → ClassId) (at_ : Nat → Nat) (rr : Nat → Nat) (ru : Nat → Nat) (sz : Nat) (t_fac : Nat → Int64) (t_der : Nat → Int64) (t_rec : Nat → Nat → Int64) (t_rut : Nat → Nat → Int64) (t_ris : Nat → Int64) (a1 : Int32) (a2 : Int32) {Q : (Nat → Int64) → Prop} (hq : q3_fillRisesByBelow t_ris a1 a2 Q) : Met l yX3_fillRisesByBelow (.code yX3_fillRisesByBelow cX3_fillRisesByBelow 6 none :: gt) ({ frames := 2, cells := 0, slots := 0, locals := 45 } : Room) (va_Pc [.ref (at_ 0), .int a1, .int a2] (Pw (dC, dI) (KA cs) (wX3 cs at_ rr ru t_fac t_der t_rec t_rut t_ris) sz)) (va_Qv (fun (u : (Nat → Int64)) => Q u) (Bw (dC, dI) (KA cs) (va_A (wX3 cs at_ rr ru t_fac t_der t_rec t_rut t_ris) sz) (fun u : (Nat → Int64) => (wX3 cs at_ rr ru t_fac t_der t_rec t_rut u))) (va_A (wX3 cs at_ rr ru t_fac t_der t_rec t_rut t_ris) sz)) 0 0 (va_A (wX3 cs at_ rr ru t_fac t_der t_rec t_rut t_ris) sz) := by
  refine Met.ofW (cc := cX3_fillRisesByBelow) (maxL := 6) (ret := none) (by decide) rfl ?_
  intro p e s m args below meth c s₁ B hml hv
  obtain ⟨rfl, hsz, hP, hK, hD0, hN⟩ := hv
  have hx := B.exec
  have hb := B.bytes
  have hr := B.returns
  have hts0 := atoms_spec (ws := (.code yX3_fillRisesByBelow cX3_fillRisesByBelow 6 none :: gt)) B.pre
  have hts : ∀ w ∈ gt, w.before _ s = true := fun w h => hts0 w (List.mem_cons_of_mem _ h)
  have hown : s.vm.findClass RX3 = some m.cls := findClass_of_methodNamed B.named
  have hlocks := B.notSynchronized
  subst hsz
  have hD := hD0.self (sz := s.heap.size)
  generalize hAe : va_A (wX3 cs at_ rr ru t_fac t_der t_rec t_rut t_ris) s.heap.size = A at hD ⊢
  have hA : ∀ q : Nat, s.heap.size ≤ q → A q := fun q h => by rw [← hAe]; exact Or.inr h
  have hS : va_S A s.heap s.heap [] := va_S.rf
  have hl := lv_entry ([.ref (at_ 0), .int a1, .int a2]) (n := 6) (Nat.le_of_ble_eq_true rfl)
  rw [lg_entry_eq]
  generalize (lg_sl ([.ref (at_ 0), .int a1, .int a2]) ++ List.replicate (6 - (lg_sl ([.ref (at_ 0), .int a1, .int a2])).length) Slot.unset).toArray = ls at hl ⊢
  have hl : lv_has ls 6 [(0, .ref (at_ 0)), (1, .int a1), (2, .int a2)] := hl
  have B47 : ∀ (k47 : Nat) (x1 : Int32) (x2 : Int32) (x3 : Int64) (x5 : Int32) (t_ris : Nat → Int64) (H : Heap) (locs : List Loc) (ls : Array Slot), q3_fillRisesByBelow_47 Q k47 x1 x2 x3 x5 t_ris → va_P (dC, dI) vwCl (wX3 cs at_ rr ru t_fac t_der t_rec t_rut t_ris) H → va_D A (wX3 cs at_ rr ru t_fac t_der t_rec t_rut t_ris) → va_S A s.heap H locs → lv_has ls 6 [(0, .ref (at_ 0)), (1, .int x1), (2, .int x2), (3, .long x3), (5, .int x5)] → W p l e ({ frames := 2, cells := 0, slots := 0, locals := 45 } : Room) s m ([.ref (at_ 0), .int a1, .int a2] : List Value).toArray below meth c H locs 0 0 (MQ below (va_Qv (fun (u : (Nat → Int64)) => Q u) (Bw (dC, dI) (KA cs) A (fun u : (Nat → Int64) => (wX3 cs at_ rr ru t_fac t_der t_rec t_rut u))) A) ([.ref (at_ 0), .int a1, .int a2] : List Value).toArray s 0 0 A) (F0 m 47 ls []) := by
    intro k47
    induction k47 with
    | zero => intro x1 x2 x3 x5 t_ris H locs ls hq; exact False.elim hq
    | succ k47 ih47 =>
      intro x1 x2 x3 x5 t_ris H locs ls hq hP hD hS hl
      unfold q3_fillRisesByBelow_47 at hq
      refine lv_iload hx hb dX3_fillRisesByBelow_47 (lv_at hl 4 rfl) ?_
      refine lv_iload_n hx hb dX3_fillRisesByBelow_49 rfl (lv_at hl 1 rfl) ?_
      refine lv_icmp_gt (tgt := 102) hx hb dX3_fillRisesByBelow_50 (by decide) (fun c10 => ?_) (fun c10 => ?_)
      · have hq := hq.1 c10
        exact W.vret hx hb hr (fun t ht hW => ⟨⟨t_ris, rfl, hq, Bw_mk (by rw [ht]; exact hP) (va_K.moved hW.alike hK) hD⟩, hS.F ht⟩) hS.2.2 dX3_fillRisesByBelow_102
      · have hq := hq.2 c10
        refine lv_lload_n hx hb dX3_fillRisesByBelow_53 rfl (lv_at hl 3 rfl) ?_
        refine lv_aload_n hx hb dX3_fillRisesByBelow_54 rfl (lv_at hl 0 rfl) ?_
        refine lv_iload_n hx hb dX3_fillRisesByBelow_55 rfl (lv_at hl 1 rfl) ?_
        refine lv_iconst (v := (1 : Int32)) hx hb dX3_fillRisesByBelow_56 (by decide) ?_
        refine lv_isub hx hb dX3_fillRisesByBelow_57 ?_
        refine lv_iload hx hb dX3_fillRisesByBelow_58 (lv_at hl 4 rfl) ?_
        refine lv_iconst (v := (1 : Int32)) hx hb dX3_fillRisesByBelow_60 (by decide) ?_
        refine lv_isub hx hb dX3_fillRisesByBelow_61 ?_
        refine lv_iload_n hx hb dX3_fillRisesByBelow_62 rfl (lv_at hl 2 rfl) ?_
        refine rol (runV ⟨hx, hb, hml, hown, hts⟩ wf_X3_withRises ml_X3_56 (c3_withRises l dC dI cs at_ rr ru t_fac t_der t_rec t_rut t_ris (x1 - (1 : Int32)) (x5 - (1 : Int32)) x2 hq) ⟨⟨rfl, rfl⟩, by decide, by decide⟩ (preR hP hK hN) hK hP rfl 0 rfl rfl hl.1 rfl (Nat.le_of_ble_eq_true rfl) dX3_fillRisesByBelow_63 ⟨(Nat.le_of_ble_eq_true rfl), (Nat.le_of_ble_eq_true rfl)⟩) (fun r11 hq => ?_)
        refine lv_aload_n hx hb dX3_fillRisesByBelow_66 rfl (lv_at hl 0 rfl) ?_
        refine lv_iload_n hx hb dX3_fillRisesByBelow_67 rfl (lv_at hl 1 rfl) ?_
        refine lv_iconst (v := (1 : Int32)) hx hb dX3_fillRisesByBelow_68 (by decide) ?_
        refine lv_isub hx hb dX3_fillRisesByBelow_69 ?_
        refine lv_iload hx hb dX3_fillRisesByBelow_70 (lv_at hl 4 rfl) ?_
        refine lv_iconst (v := (1 : Int32)) hx hb dX3_fillRisesByBelow_72 (by decide) ?_
        refine lv_isub hx hb dX3_fillRisesByBelow_73 ?_
        refine lv_iload_n hx hb dX3_fillRisesByBelow_74 rfl (lv_at hl 2 rfl) ?_
        refine lv_iconst (v := (1 : Int32)) hx hb dX3_fillRisesByBelow_75 (by decide) ?_
        refine lv_isub hx hb dX3_fillRisesByBelow_76 ?_
        refine rol (runV ⟨hx, hb, hml, hown, hts⟩ wf_X3_withRises ml_X3_56 (c3_withRises l dC dI cs at_ rr ru t_fac t_der t_rec t_rut t_ris (x1 - (1 : Int32)) (x5 - (1 : Int32)) (x2 - (1 : Int32)) hq) ⟨⟨rfl, rfl⟩, by decide, by decide⟩ (preR hP hK hN) hK hP rfl 0 rfl rfl hl.1 rfl (Nat.le_of_ble_eq_true rfl) dX3_fillRisesByBelow_77 ⟨(Nat.le_of_ble_eq_true rfl), (Nat.le_of_ble_eq_true rfl)⟩) (fun r12 hq => ?_)
        refine lv_lsub hx hb dX3_fillRisesByBelow_80 ?_
        refine lv_ladd hx hb dX3_fillRisesByBelow_81 ?_
        refine lv_lstore_n (lv' := [(3, .long (x3 + (r11 - r12))), (0, .ref (at_ 0)), (1, .int x1), (2, .int x2), (5, .int x5)]) hx hb dX3_fillRisesByBelow_82 rfl hl (by decide) rfl (fun ls hl => ?_)
        refine lv_aload_n hx hb dX3_fillRisesByBelow_83 rfl (lv_at hl 1 rfl) ?_
        refine va_get (D := (dC, dI)) (ci := 3) (v := .ref (at_ 5)) (C := RX3) (T := TX3) (N := 5) hx hb hts uwX3 hown hK hP 0 rfl rfl 4 (by decide) (hts _ fl_X3_30) (fun _ h9 => h9) rfl dX3_fillRisesByBelow_84 ?_
        refine lv_iload_n hx hb dX3_fillRisesByBelow_87 rfl (lv_at hl 2 rfl) ?_
        refine lv_iload hx hb dX3_fillRisesByBelow_88 (lv_at hl 4 rfl) ?_
        refine lv_iload_n hx hb dX3_fillRisesByBelow_90 rfl (lv_at hl 3 rfl) ?_
        refine roi (runS ⟨hx, hb, hml, hown, hts⟩ ws_X3_riseSlot ml_X3_26 (c3_riseSlot l dC dI cs   x1 x5 x2 hq) ⟨⟨rfl, rfl⟩, by decide, by decide⟩ (preR va_P_nil hK hN) hN rfl hl.1 rfl (Nat.le_of_ble_eq_true rfl) dX3_fillRisesByBelow_91 ⟨(Nat.le_of_ble_eq_true rfl), (Nat.le_of_ble_eq_true rfl)⟩) (fun r13 hq => ?_)
        refine lv_lload_n hx hb dX3_fillRisesByBelow_94 rfl (lv_at hl 0 rfl) ?_
        obtain ⟨i14, hq⟩ := hq
        refine va_last hx hb hK hP hD hS 5 1 rfl rfl i14 dX3_fillRisesByBelow_95 (fun H locs hP hD hS => ?_)
        have hP : va_P (dC, dI) vwCl (wX3 cs at_ rr ru t_fac t_der t_rec t_rut (vp_updL t_ris r13.toNatClampNeg (x3 + (r11 - r12)))) H := hP
        have hD : va_D A (wX3 cs at_ rr ru t_fac t_der t_rec t_rut (vp_updL t_ris r13.toNatClampNeg (x3 + (r11 - r12)))) := hD
        refine lv_iinc (v := (x5 + (1 : Int32))) (lv' := [(5, .int (x5 + (1 : Int32))), (3, .long (x3 + (r11 - r12))), (0, .ref (at_ 0)), (1, .int x1), (2, .int x2)]) hx hb dX3_fillRisesByBelow_96 hl (k := 4) rfl (by rfl) (by decide) rfl (fun ls hl => ?_)
        refine lv_goto (tgt := 47) hx hb dX3_fillRisesByBelow_99 (by decide) ?_
        exact ih47 x1 x2 (x3 + (r11 - r12)) (x5 + (1 : Int32)) (vp_updL t_ris r13.toNatClampNeg (x3 + (r11 - r12))) _ _ _ hq hP hD hS (lv_sub hl [2, 3, 4, 1, 0] rfl)
  have B32 : ∀ (x1 : Int32) (x2 : Int32) (x3 : Int64) (t_ris : Nat → Int64) (H : Heap) (locs : List Loc) (ls : Array Slot), q3_fillRisesByBelow_32 Q x1 x2 x3 t_ris → va_P (dC, dI) vwCl (wX3 cs at_ rr ru t_fac t_der t_rec t_rut t_ris) H → va_D A (wX3 cs at_ rr ru t_fac t_der t_rec t_rut t_ris) → va_S A s.heap H locs → lv_has ls 6 [(0, .ref (at_ 0)), (1, .int x1), (2, .int x2), (3, .long x3)] → W p l e ({ frames := 2, cells := 0, slots := 0, locals := 45 } : Room) s m ([.ref (at_ 0), .int a1, .int a2] : List Value).toArray below meth c H locs 0 0 (MQ below (va_Qv (fun (u : (Nat → Int64)) => Q u) (Bw (dC, dI) (KA cs) A (fun u : (Nat → Int64) => (wX3 cs at_ rr ru t_fac t_der t_rec t_rut u))) A) ([.ref (at_ 0), .int a1, .int a2] : List Value).toArray s 0 0 A) (F0 m 32 ls []) := by
    intro x1 x2 x3 t_ris H locs ls hq hP hD hS hl
    unfold q3_fillRisesByBelow_32 at hq
    refine lv_aload_n hx hb dX3_fillRisesByBelow_32 rfl (lv_at hl 0 rfl) ?_
    refine va_get (D := (dC, dI)) (ci := 3) (v := .ref (at_ 5)) (C := RX3) (T := TX3) (N := 5) hx hb hts uwX3 hown hK hP 0 rfl rfl 4 (by decide) (hts _ fl_X3_30) (fun _ h9 => h9) rfl dX3_fillRisesByBelow_33 ?_
    refine lv_iload_n hx hb dX3_fillRisesByBelow_36 rfl (lv_at hl 1 rfl) ?_
    refine lv_iconst (v := (0 : Int32)) hx hb dX3_fillRisesByBelow_37 (by decide) ?_
    refine lv_iload_n hx hb dX3_fillRisesByBelow_38 rfl (lv_at hl 2 rfl) ?_
    refine roi (runS ⟨hx, hb, hml, hown, hts⟩ ws_X3_riseSlot ml_X3_26 (c3_riseSlot l dC dI cs   x1 (0 : Int32) x2 hq) ⟨⟨rfl, rfl⟩, by decide, by decide⟩ (preR va_P_nil hK hN) hN rfl hl.1 rfl (Nat.le_of_ble_eq_true rfl) dX3_fillRisesByBelow_39 ⟨(Nat.le_of_ble_eq_true rfl), (Nat.le_of_ble_eq_true rfl)⟩) (fun r15 hq => ?_)
    refine lv_lload_n hx hb dX3_fillRisesByBelow_42 rfl (lv_at hl 3 rfl) ?_
    obtain ⟨i16, hq⟩ := hq
    refine va_last hx hb hK hP hD hS 5 1 rfl rfl i16 dX3_fillRisesByBelow_43 (fun H locs hP hD hS => ?_)
    have hP : va_P (dC, dI) vwCl (wX3 cs at_ rr ru t_fac t_der t_rec t_rut (vp_updL t_ris r15.toNatClampNeg x3)) H := hP
    have hD : va_D A (wX3 cs at_ rr ru t_fac t_der t_rec t_rut (vp_updL t_ris r15.toNatClampNeg x3)) := hD
    refine lv_iconst (v := (1 : Int32)) hx hb dX3_fillRisesByBelow_44 (by decide) ?_
    refine lv_istore (lv' := [(5, .int (1 : Int32)), (0, .ref (at_ 0)), (1, .int x1), (2, .int x2), (3, .long x3)]) hx hb dX3_fillRisesByBelow_45 hl (by decide) rfl (fun ls hl => ?_)
    obtain ⟨kf, hq⟩ := hq
    exact B47 kf x1 x2 x3 (1 : Int32) (vp_updL t_ris r15.toNatClampNeg x3) _ _ _ hq hP hD hS (lv_sub hl [1, 2, 3, 4, 0] rfl)
  have B5 : ∀ (k5 : Nat) (x1 : Int32) (x2 : Int32) (x3 : Int64) (x5 : Int32) (t_ris : Nat → Int64) (H : Heap) (locs : List Loc) (ls : Array Slot), q3_fillRisesByBelow_5 Q k5 x1 x2 x3 x5 t_ris → va_P (dC, dI) vwCl (wX3 cs at_ rr ru t_fac t_der t_rec t_rut t_ris) H → va_D A (wX3 cs at_ rr ru t_fac t_der t_rec t_rut t_ris) → va_S A s.heap H locs → lv_has ls 6 [(0, .ref (at_ 0)), (1, .int x1), (2, .int x2), (3, .long x3), (5, .int x5)] → W p l e ({ frames := 2, cells := 0, slots := 0, locals := 45 } : Room) s m ([.ref (at_ 0), .int a1, .int a2] : List Value).toArray below meth c H locs 0 0 (MQ below (va_Qv (fun (u : (Nat → Int64)) => Q u) (Bw (dC, dI) (KA cs) A (fun u : (Nat → Int64) => (wX3 cs at_ rr ru t_fac t_der t_rec t_rut u))) A) ([.ref (at_ 0), .int a1, .int a2] : List Value).toArray s 0 0 A) (F0 m 5 ls []) := by
    intro k5
    induction k5 with
    | zero => intro x1 x2 x3 x5 t_ris H locs ls hq; exact False.elim hq
    | succ k5 ih5 =>
      intro x1 x2 x3 x5 t_ris H locs ls hq hP hD hS hl
      unfold q3_fillRisesByBelow_5 at hq
      refine lv_iload hx hb dX3_fillRisesByBelow_5 (lv_at hl 4 rfl) ?_
      refine lv_iload_n hx hb dX3_fillRisesByBelow_7 rfl (lv_at hl 1 rfl) ?_
      refine lv_icmp_ge (tgt := 32) hx hb dX3_fillRisesByBelow_8 (by decide) (fun c17 => ?_) (fun c17 => ?_)
      · have hq := hq.1 c17
        exact B32 x1 x2 x3 t_ris _ _ _ hq hP hD hS (lv_sub hl [0, 1, 2, 3] rfl)
      · have hq := hq.2 c17
        refine lv_lload_n hx hb dX3_fillRisesByBelow_11 rfl (lv_at hl 3 rfl) ?_
        refine lv_aload_n hx hb dX3_fillRisesByBelow_12 rfl (lv_at hl 0 rfl) ?_
        refine lv_iload_n hx hb dX3_fillRisesByBelow_13 rfl (lv_at hl 1 rfl) ?_
        refine lv_iconst (v := (1 : Int32)) hx hb dX3_fillRisesByBelow_14 (by decide) ?_
        refine lv_isub hx hb dX3_fillRisesByBelow_15 ?_
        refine lv_iload hx hb dX3_fillRisesByBelow_16 (lv_at hl 4 rfl) ?_
        refine lv_iload_n hx hb dX3_fillRisesByBelow_18 rfl (lv_at hl 2 rfl) ?_
        refine lv_iconst (v := (1 : Int32)) hx hb dX3_fillRisesByBelow_19 (by decide) ?_
        refine lv_isub hx hb dX3_fillRisesByBelow_20 ?_
        refine rol (runV ⟨hx, hb, hml, hown, hts⟩ wf_X3_withRises ml_X3_56 (c3_withRises l dC dI cs at_ rr ru t_fac t_der t_rec t_rut t_ris (x1 - (1 : Int32)) x5 (x2 - (1 : Int32)) hq) ⟨⟨rfl, rfl⟩, by decide, by decide⟩ (preR hP hK hN) hK hP rfl 0 rfl rfl hl.1 rfl (Nat.le_of_ble_eq_true rfl) dX3_fillRisesByBelow_21 ⟨(Nat.le_of_ble_eq_true rfl), (Nat.le_of_ble_eq_true rfl)⟩) (fun r18 hq => ?_)
        refine lv_ladd hx hb dX3_fillRisesByBelow_24 ?_
        refine lv_lstore_n (lv' := [(3, .long (x3 + r18)), (0, .ref (at_ 0)), (1, .int x1), (2, .int x2), (5, .int x5)]) hx hb dX3_fillRisesByBelow_25 rfl hl (by decide) rfl (fun ls hl => ?_)
        refine lv_iinc (v := (x5 + (1 : Int32))) (lv' := [(5, .int (x5 + (1 : Int32))), (3, .long (x3 + r18)), (0, .ref (at_ 0)), (1, .int x1), (2, .int x2)]) hx hb dX3_fillRisesByBelow_26 hl (k := 4) rfl (by rfl) (by decide) rfl (fun ls hl => ?_)
        refine lv_goto (tgt := 5) hx hb dX3_fillRisesByBelow_29 (by decide) ?_
        exact ih5 x1 x2 (x3 + r18) (x5 + (1 : Int32)) t_ris _ _ _ hq hP hD hS (lv_sub hl [2, 3, 4, 1, 0] rfl)
  unfold q3_fillRisesByBelow at hq
  refine lv_lconst (v := (0 : Int64)) hx hb dX3_fillRisesByBelow_0 (by decide) ?_
  refine lv_lstore_n (lv' := [(3, .long (0 : Int64)), (0, .ref (at_ 0)), (1, .int a1), (2, .int a2)]) hx hb dX3_fillRisesByBelow_1 rfl hl (by decide) rfl (fun ls hl => ?_)
  refine lv_iconst (v := (0 : Int32)) hx hb dX3_fillRisesByBelow_2 (by decide) ?_
  refine lv_istore (lv' := [(5, .int (0 : Int32)), (3, .long (0 : Int64)), (0, .ref (at_ 0)), (1, .int a1), (2, .int a2)]) hx hb dX3_fillRisesByBelow_3 hl (by decide) rfl (fun ls hl => ?_)
  obtain ⟨kf, hq⟩ := hq
  exact B5 kf a1 a2 (0 : Int64) (0 : Int32) t_ris _ _ _ hq hP hD hS (lv_sub hl [2, 3, 4, 1, 0] rfl)
set_option maxHeartbeats 4000000 in
set_option maxRecDepth 100000 in
theorem c3_fillRises (l : Launch) (dC : Nat → ClassId) (dI : Nat → Nat → Nat) (cs : Nat → ClassId) (at_ : Nat → Nat) (rr : Nat → Nat) (ru : Nat → Nat) (sz : Nat) (t_fac : Nat → Int64) (t_der : Nat → Int64) (t_rec : Nat → Nat → Int64) (t_rut : Nat → Nat → Int64) (t_ris : Nat → Int64) {Q : (Nat → Int64) → Prop} (hq : q3_fillRises t_ris Q) : Met l yX3_fillRises (.code yX3_fillRises cX3_fillRises 3 none :: gt) ({ frames := 3, cells := 0, slots := 0, locals := 70 } : Room) (va_Pc [.ref (at_ 0)] (Pw (dC, dI) (KA cs) (wX3 cs at_ rr ru t_fac t_der t_rec t_rut t_ris) sz)) (va_Qv (fun (u : (Nat → Int64)) => Q u) (Bw (dC, dI) (KA cs) (va_A (wX3 cs at_ rr ru t_fac t_der t_rec t_rut t_ris) sz) (fun u : (Nat → Int64) => (wX3 cs at_ rr ru t_fac t_der t_rec t_rut u))) (va_A (wX3 cs at_ rr ru t_fac t_der t_rec t_rut t_ris) sz)) 0 0 (va_A (wX3 cs at_ rr ru t_fac t_der t_rec t_rut t_ris) sz) := by
  refine Met.ofW (cc := cX3_fillRises) (maxL := 3) (ret := none) (by decide) rfl ?_
  intro p e s m args below meth c s₁ B hml hv
  obtain ⟨rfl, hsz, hP, hK, hD0, hN⟩ := hv
  have hx := B.exec
  have hb := B.bytes
  have hr := B.returns
  have hts0 := atoms_spec (ws := (.code yX3_fillRises cX3_fillRises 3 none :: gt)) B.pre
  have hts : ∀ w ∈ gt, w.before _ s = true := fun w h => hts0 w (List.mem_cons_of_mem _ h)
  have hown : s.vm.findClass RX3 = some m.cls := findClass_of_methodNamed B.named
  have hlocks := B.notSynchronized
  subst hsz
  have hD := hD0.self (sz := s.heap.size)
  generalize hAe : va_A (wX3 cs at_ rr ru t_fac t_der t_rec t_rut t_ris) s.heap.size = A at hD ⊢
  have hA : ∀ q : Nat, s.heap.size ≤ q → A q := fun q h => by rw [← hAe]; exact Or.inr h
  have hS : va_S A s.heap s.heap [] := va_S.rf
  have hl := lv_entry ([.ref (at_ 0)]) (n := 3) (Nat.le_of_ble_eq_true rfl)
  rw [lg_entry_eq]
  generalize (lg_sl ([.ref (at_ 0)]) ++ List.replicate (3 - (lg_sl ([.ref (at_ 0)])).length) Slot.unset).toArray = ls at hl ⊢
  have hl : lv_has ls 3 [(0, .ref (at_ 0))] := hl
  have B9 : ∀ (k9 : Nat) (x1 : Int32) (t_ris : Nat → Int64) (H : Heap) (locs : List Loc) (ls : Array Slot), q3_fillRises_9 Q k9 x1 t_ris → va_P (dC, dI) vwCl (wX3 cs at_ rr ru t_fac t_der t_rec t_rut t_ris) H → va_D A (wX3 cs at_ rr ru t_fac t_der t_rec t_rut t_ris) → va_S A s.heap H locs → lv_has ls 3 [(0, .ref (at_ 0)), (1, .int x1)] → W p l e ({ frames := 3, cells := 0, slots := 0, locals := 70 } : Room) s m ([.ref (at_ 0)] : List Value).toArray below meth c H locs 0 0 (MQ below (va_Qv (fun (u : (Nat → Int64)) => Q u) (Bw (dC, dI) (KA cs) A (fun u : (Nat → Int64) => (wX3 cs at_ rr ru t_fac t_der t_rec t_rut u))) A) ([.ref (at_ 0)] : List Value).toArray s 0 0 A) (F0 m 9 ls []) := by
    intro k9
    induction k9 with
    | zero => intro x1 t_ris H locs ls hq; exact False.elim hq
    | succ k9 ih9 =>
      intro x1 t_ris H locs ls hq hP hD hS hl
      have B34 : ∀ (x1 : Int32) (t_ris : Nat → Int64) (H : Heap) (locs : List Loc) (ls : Array Slot), q3_fillRises_34 (fun v0 v1 => q3_fillRises_9 Q k9 v0 v1) Q x1 t_ris → va_P (dC, dI) vwCl (wX3 cs at_ rr ru t_fac t_der t_rec t_rut t_ris) H → va_D A (wX3 cs at_ rr ru t_fac t_der t_rec t_rut t_ris) → va_S A s.heap H locs → lv_has ls 3 [(0, .ref (at_ 0)), (1, .int x1)] → W p l e ({ frames := 3, cells := 0, slots := 0, locals := 70 } : Room) s m ([.ref (at_ 0)] : List Value).toArray below meth c H locs 0 0 (MQ below (va_Qv (fun (u : (Nat → Int64)) => Q u) (Bw (dC, dI) (KA cs) A (fun u : (Nat → Int64) => (wX3 cs at_ rr ru t_fac t_der t_rec t_rut u))) A) ([.ref (at_ 0)] : List Value).toArray s 0 0 A) (F0 m 34 ls []) := by
        intro x1 t_ris H locs ls hq hP hD hS hl
        unfold q3_fillRises_34 at hq
        refine lv_iinc (v := (x1 + (1 : Int32))) (lv' := [(1, .int (x1 + (1 : Int32))), (0, .ref (at_ 0))]) hx hb dX3_fillRises_34 hl (k := 1) rfl (by rfl) (by decide) rfl (fun ls hl => ?_)
        refine lv_goto (tgt := 9) hx hb dX3_fillRises_37 (by decide) ?_
        exact ih9 (x1 + (1 : Int32)) t_ris _ _ _ hq hP hD hS (lv_sub hl [1, 0] rfl)
      have B17 : ∀ (k17 : Nat) (x1 : Int32) (x2 : Int32) (t_ris : Nat → Int64) (H : Heap) (locs : List Loc) (ls : Array Slot), q3_fillRises_17 (fun v0 v1 => q3_fillRises_9 Q k9 v0 v1) Q k17 x1 x2 t_ris → va_P (dC, dI) vwCl (wX3 cs at_ rr ru t_fac t_der t_rec t_rut t_ris) H → va_D A (wX3 cs at_ rr ru t_fac t_der t_rec t_rut t_ris) → va_S A s.heap H locs → lv_has ls 3 [(0, .ref (at_ 0)), (1, .int x1), (2, .int x2)] → W p l e ({ frames := 3, cells := 0, slots := 0, locals := 70 } : Room) s m ([.ref (at_ 0)] : List Value).toArray below meth c H locs 0 0 (MQ below (va_Qv (fun (u : (Nat → Int64)) => Q u) (Bw (dC, dI) (KA cs) A (fun u : (Nat → Int64) => (wX3 cs at_ rr ru t_fac t_der t_rec t_rut u))) A) ([.ref (at_ 0)] : List Value).toArray s 0 0 A) (F0 m 17 ls []) := by
        intro k17
        induction k17 with
        | zero => intro x1 x2 t_ris H locs ls hq; exact False.elim hq
        | succ k17 ih17 =>
          intro x1 x2 t_ris H locs ls hq hP hD hS hl
          unfold q3_fillRises_17 at hq
          refine lv_iload_n hx hb dX3_fillRises_17 rfl (lv_at hl 2 rfl) ?_
          refine lv_iload_n hx hb dX3_fillRises_18 rfl (lv_at hl 1 rfl) ?_
          refine lv_icmp_gt (tgt := 34) hx hb dX3_fillRises_19 (by decide) (fun c6 => ?_) (fun c6 => ?_)
          · have hq := hq.1 c6
            exact B34 x1 t_ris _ _ _ hq hP hD hS (lv_sub hl [0, 1] rfl)
          · have hq := hq.2 c6
            refine lv_aload_n hx hb dX3_fillRises_22 rfl (lv_at hl 0 rfl) ?_
            refine lv_iload_n hx hb dX3_fillRises_23 rfl (lv_at hl 1 rfl) ?_
            refine lv_iload_n hx hb dX3_fillRises_24 rfl (lv_at hl 2 rfl) ?_
            refine swv (runV ⟨hx, hb, hml, hown, hts⟩ wf_X3_fillRisesByBelow ml_X3_52 (c3_fillRisesByBelow l dC dI cs at_ rr ru _ t_fac t_der t_rec t_rut t_ris x1 x2 hq) ⟨⟨rfl, rfl⟩, by decide, by decide⟩ (preW hP hK hN hD) hK hP rfl 0 rfl rfl hl.1 rfl (Nat.le_of_ble_eq_true rfl) dX3_fillRises_25 ⟨(Nat.le_of_ble_eq_true rfl), (Nat.le_of_ble_eq_true rfl)⟩) hD hS hA (fun  t_ris_7 H locs hq hP hD hS => ?_)
            have hP : va_P (dC, dI) vwCl (wX3 cs at_ rr ru t_fac t_der t_rec t_rut t_ris_7) H := hP
            have hD : va_D A (wX3 cs at_ rr ru t_fac t_der t_rec t_rut t_ris_7) := hD
            refine lv_iinc (v := (x2 + (1 : Int32))) (lv' := [(2, .int (x2 + (1 : Int32))), (0, .ref (at_ 0)), (1, .int x1)]) hx hb dX3_fillRises_28 hl (k := 2) rfl (by rfl) (by decide) rfl (fun ls hl => ?_)
            refine lv_goto (tgt := 17) hx hb dX3_fillRises_31 (by decide) ?_
            exact ih17 x1 (x2 + (1 : Int32)) t_ris_7 _ _ _ hq hP hD hS (lv_sub hl [1, 2, 0] rfl)
      unfold q3_fillRises_9 at hq
      refine lv_iload_n hx hb dX3_fillRises_9 rfl (lv_at hl 1 rfl) ?_
      refine lv_bipush (v := (18 : Int32)) hx hb dX3_fillRises_10 (by decide) ?_
      refine lv_icmp_gt (tgt := 40) hx hb dX3_fillRises_12 (by decide) (fun c9 => ?_) (fun c9 => ?_)
      · have hq := hq.1 c9
        exact W.vret hx hb hr (fun t ht hW => ⟨⟨t_ris, rfl, hq, Bw_mk (by rw [ht]; exact hP) (va_K.moved hW.alike hK) hD⟩, hS.F ht⟩) hS.2.2 dX3_fillRises_40
      · have hq := hq.2 c9
        refine lv_iconst (v := (0 : Int32)) hx hb dX3_fillRises_15 (by decide) ?_
        refine lv_istore_n (lv' := [(2, .int (0 : Int32)), (0, .ref (at_ 0)), (1, .int x1)]) hx hb dX3_fillRises_16 rfl hl (by decide) rfl (fun ls hl => ?_)
        obtain ⟨kf, hq⟩ := hq
        exact B17 kf x1 (0 : Int32) t_ris _ _ _ hq hP hD hS (lv_sub hl [1, 2, 0] rfl)
  unfold q3_fillRises at hq
  refine lv_aload_n hx hb dX3_fillRises_0 rfl (lv_at hl 0 rfl) ?_
  refine va_get (D := (dC, dI)) (ci := 3) (v := .ref (at_ 5)) (C := RX3) (T := TX3) (N := 5) hx hb hts uwX3 hown hK hP 0 rfl rfl 4 (by decide) (hts _ fl_X3_30) (fun _ h9 => h9) rfl dX3_fillRises_1 ?_
  refine lv_iconst (v := (0 : Int32)) hx hb dX3_fillRises_4 (by decide) ?_
  refine lv_lconst (v := (1 : Int64)) hx hb dX3_fillRises_5 (by decide) ?_
  obtain ⟨i10, hq⟩ := hq
  refine va_last hx hb hK hP hD hS 5 1 rfl rfl i10 dX3_fillRises_6 (fun H locs hP hD hS => ?_)
  have hP : va_P (dC, dI) vwCl (wX3 cs at_ rr ru t_fac t_der t_rec t_rut (vp_updL t_ris (0 : Int32).toNatClampNeg (1 : Int64))) H := hP
  have hD : va_D A (wX3 cs at_ rr ru t_fac t_der t_rec t_rut (vp_updL t_ris (0 : Int32).toNatClampNeg (1 : Int64))) := hD
  refine lv_iconst (v := (1 : Int32)) hx hb dX3_fillRises_7 (by decide) ?_
  refine lv_istore_n (lv' := [(1, .int (1 : Int32)), (0, .ref (at_ 0))]) hx hb dX3_fillRises_8 rfl hl (by decide) rfl (fun ls hl => ?_)
  obtain ⟨kf, hq⟩ := hq
  exact B9 kf (1 : Int32) (vp_updL t_ris (0 : Int32).toNatClampNeg (1 : Int64)) _ _ _ hq hP hD hS (lv_sub hl [1, 0] rfl)
set_option maxHeartbeats 4000000 in
set_option maxRecDepth 100000 in
theorem c0_emptyAll (l : Launch) (dC : Nat → ClassId) (dI : Nat → Nat → Nat) (cs : Nat → ClassId) (al : Nat → Nat) (bx : Nat → Nat) (sz : Nat) (l_len : Nat → Int32) (l_ways : Nat → Int64) (l_box : Nat → Nat → Int32) {Q : (Nat → Int32) → Prop} (hq : q0_emptyAll l_len Q) : Met l yX0_emptyAll (.code yX0_emptyAll cX0_emptyAll 2 none :: gt) ({ frames := 0, cells := 0, slots := 0, locals := 0 } : Room) (va_Pc [.ref (al 0)] (Pw (dC, dI) (KA cs) (wX0 cs al bx l_len l_ways l_box) sz)) (va_Qv (fun (u : (Nat → Int32)) => Q u) (Bw (dC, dI) (KA cs) (va_A (wX0 cs al bx l_len l_ways l_box) sz) (fun u : (Nat → Int32) => (wX0 cs al bx u l_ways l_box))) (va_A (wX0 cs al bx l_len l_ways l_box) sz)) 0 0 (va_A (wX0 cs al bx l_len l_ways l_box) sz) := by
  refine Met.ofW (cc := cX0_emptyAll) (maxL := 2) (ret := none) (by decide) rfl ?_
  intro p e s m args below meth c s₁ B hml hv
  obtain ⟨rfl, hsz, hP, hK, hD0, hN⟩ := hv
  have hx := B.exec
  have hb := B.bytes
  have hr := B.returns
  have hts0 := atoms_spec (ws := (.code yX0_emptyAll cX0_emptyAll 2 none :: gt)) B.pre
  have hts : ∀ w ∈ gt, w.before _ s = true := fun w h => hts0 w (List.mem_cons_of_mem _ h)
  have hown : s.vm.findClass RX0 = some m.cls := findClass_of_methodNamed B.named
  have hlocks := B.notSynchronized
  subst hsz
  have hD := hD0.self (sz := s.heap.size)
  generalize hAe : va_A (wX0 cs al bx l_len l_ways l_box) s.heap.size = A at hD ⊢
  have hA : ∀ q : Nat, s.heap.size ≤ q → A q := fun q h => by rw [← hAe]; exact Or.inr h
  have hS : va_S A s.heap s.heap [] := va_S.rf
  have hl := lv_entry ([.ref (al 0)]) (n := 2) (Nat.le_of_ble_eq_true rfl)
  rw [lg_entry_eq]
  generalize (lg_sl ([.ref (al 0)]) ++ List.replicate (2 - (lg_sl ([.ref (al 0)])).length) Slot.unset).toArray = ls at hl ⊢
  have hl : lv_has ls 2 [(0, .ref (al 0))] := hl
  have B2 : ∀ (k2 : Nat) (x1 : Int32) (l_len : Nat → Int32) (H : Heap) (locs : List Loc) (ls : Array Slot), q0_emptyAll_2 Q k2 x1 l_len → va_P (dC, dI) vwCl (wX0 cs al bx l_len l_ways l_box) H → va_D A (wX0 cs al bx l_len l_ways l_box) → va_S A s.heap H locs → lv_has ls 2 [(0, .ref (al 0)), (1, .int x1)] → W p l e ({ frames := 0, cells := 0, slots := 0, locals := 0 } : Room) s m ([.ref (al 0)] : List Value).toArray below meth c H locs 0 0 (MQ below (va_Qv (fun (u : (Nat → Int32)) => Q u) (Bw (dC, dI) (KA cs) A (fun u : (Nat → Int32) => (wX0 cs al bx u l_ways l_box))) A) ([.ref (al 0)] : List Value).toArray s 0 0 A) (F0 m 2 ls []) := by
    intro k2
    induction k2 with
    | zero => intro x1 l_len H locs ls hq; exact False.elim hq
    | succ k2 ih2 =>
      intro x1 l_len H locs ls hq hP hD hS hl
      unfold q0_emptyAll_2 at hq
      refine lv_iload_n hx hb dX0_emptyAll_2 rfl (lv_at hl 1 rfl) ?_
      refine lv_bipush (v := (18 : Int32)) hx hb dX0_emptyAll_3 (by decide) ?_
      refine lv_icmp_ge (tgt := 21) hx hb dX0_emptyAll_5 (by decide) (fun c3 => ?_) (fun c3 => ?_)
      · have hq := hq.1 c3
        exact W.vret hx hb hr (fun t ht hW => ⟨⟨l_len, rfl, hq, Bw_mk (by rw [ht]; exact hP) (va_K.moved hW.alike hK) hD⟩, hS.F ht⟩) hS.2.2 dX0_emptyAll_21
      · have hq := hq.2 c3
        refine lv_aload_n hx hb dX0_emptyAll_8 rfl (lv_at hl 0 rfl) ?_
        refine va_get (D := (dC, dI)) (ci := 0) (v := .ref (al 2)) (C := RX0) (T := TX0) (N := 3) hx hb hts uwX0 hown hK hP 0 rfl rfl 1 (by decide) (hts _ fl_X0_16) (fun _ h9 => h9) rfl dX0_emptyAll_9 ?_
        refine lv_iload_n hx hb dX0_emptyAll_12 rfl (lv_at hl 1 rfl) ?_
        refine lv_iconst (v := (0 : Int32)) hx hb dX0_emptyAll_13 (by decide) ?_
        obtain ⟨i4, hq⟩ := hq
        refine va_iast hx hb hK hP hD hS 2 0 rfl rfl i4 dX0_emptyAll_14 (fun H locs hP hD hS => ?_)
        have hP : va_P (dC, dI) vwCl (wX0 cs al bx (upd l_len x1.toNatClampNeg (0 : Int32)) l_ways l_box) H := hP
        have hD : va_D A (wX0 cs al bx (upd l_len x1.toNatClampNeg (0 : Int32)) l_ways l_box) := hD
        refine lv_iinc (v := (x1 + (1 : Int32))) (lv' := [(1, .int (x1 + (1 : Int32))), (0, .ref (al 0))]) hx hb dX0_emptyAll_15 hl (k := 1) rfl (by rfl) (by decide) rfl (fun ls hl => ?_)
        refine lv_goto (tgt := 2) hx hb dX0_emptyAll_18 (by decide) ?_
        exact ih2 (x1 + (1 : Int32)) (upd l_len x1.toNatClampNeg (0 : Int32)) _ _ _ hq hP hD hS (lv_sub hl [1, 0] rfl)
  unfold q0_emptyAll at hq
  refine lv_iconst (v := (0 : Int32)) hx hb dX0_emptyAll_0 (by decide) ?_
  refine lv_istore_n (lv' := [(1, .int (0 : Int32)), (0, .ref (al 0))]) hx hb dX0_emptyAll_1 rfl hl (by decide) rfl (fun ls hl => ?_)
  obtain ⟨kf, hq⟩ := hq
  exact B2 kf (0 : Int32) l_len _ _ _ hq hP hD hS (lv_sub hl [1, 0] rfl)
set_option maxHeartbeats 4000000 in
set_option maxRecDepth 100000 in
theorem c0_holds (l : Launch) (dC : Nat → ClassId) (dI : Nat → Nat → Nat) (cs : Nat → ClassId) (al : Nat → Nat) (bx : Nat → Nat) (l_len : Nat → Int32) (l_ways : Nat → Int64) (l_box : Nat → Nat → Int32) (a1 : Int32) {Q : Int32 → Prop} (hq : q0_holds a1 Q) : Met l yX0_holds (.code yX0_holds cX0_holds 2 (some .boolean) :: gt) ({ frames := 0, cells := 0, slots := 0, locals := 0 } : Room) (va_Pc [.ref (al 0), .int a1] (Pr (dC, dI) (KA cs) (wX0 cs al bx l_len l_ways l_box))) (vp_Si Q) 0 0 (fun _ => False) := by
  refine Met.ofW (cc := cX0_holds) (maxL := 2) (ret := (some .boolean)) (by decide) rfl ?_
  intro p e s m args below meth c s₁ B hml hv
  obtain ⟨rfl, hP, hK, hN⟩ := hv
  have hx := B.exec
  have hb := B.bytes
  have hr := B.returns
  have hts0 := atoms_spec (ws := (.code yX0_holds cX0_holds 2 (some .boolean) :: gt)) B.pre
  have hts : ∀ w ∈ gt, w.before _ s = true := fun w h => hts0 w (List.mem_cons_of_mem _ h)
  have hown : s.vm.findClass RX0 = some m.cls := findClass_of_methodNamed B.named
  have hlocks := B.notSynchronized
  have hl := lv_entry ([.ref (al 0), .int a1]) (n := 2) (Nat.le_of_ble_eq_true rfl)
  rw [lg_entry_eq]
  generalize (lg_sl ([.ref (al 0), .int a1]) ++ List.replicate (2 - (lg_sl ([.ref (al 0), .int a1])).length) Slot.unset).toArray = ls at hl ⊢
  have hl : lv_has ls 2 [(0, .ref (al 0)), (1, .int a1)] := hl
  unfold q0_holds at hq
  refine lv_iload_n hx hb dX0_holds_0 rfl (lv_at hl 1 rfl) ?_
  refine lv_if_lt (tgt := 14) hx hb dX0_holds_1 (by decide) (fun c3 => ?_) (fun c3 => ?_)
  · have hq := hq.1 c3
    refine lv_iconst (v := (0 : Int32)) hx hb dX0_holds_14 (by decide) ?_
    exact W.zret (ty := .boolean) (v := (0 : Int32)) hx hb hr rfl (fun t ht hW => ⟨(0 : Int32), rfl, hq, ht⟩) (fun q h => absurd h List.not_mem_nil) dX0_holds_15
  · have hq := hq.2 c3
    refine lv_iload_n hx hb dX0_holds_4 rfl (lv_at hl 1 rfl) ?_
    refine lv_bipush (v := (18 : Int32)) hx hb dX0_holds_5 (by decide) ?_
    refine lv_icmp_ge (tgt := 14) hx hb dX0_holds_7 (by decide) (fun c4 => ?_) (fun c4 => ?_)
    · have hq := hq.1 c4
      refine lv_iconst (v := (0 : Int32)) hx hb dX0_holds_14 (by decide) ?_
      exact W.zret (ty := .boolean) (v := (0 : Int32)) hx hb hr rfl (fun t ht hW => ⟨(0 : Int32), rfl, hq, ht⟩) (fun q h => absurd h List.not_mem_nil) dX0_holds_15
    · have hq := hq.2 c4
      refine lv_iconst (v := (1 : Int32)) hx hb dX0_holds_10 (by decide) ?_
      refine lv_goto (tgt := 15) hx hb dX0_holds_11 (by decide) ?_
      exact W.zret (ty := .boolean) (v := (1 : Int32)) hx hb hr rfl (fun t ht hW => ⟨(1 : Int32), rfl, hq, ht⟩) (fun q h => absurd h List.not_mem_nil) dX0_holds_15
set_option maxHeartbeats 4000000 in
set_option maxRecDepth 100000 in
theorem c0_emptyOne (l : Launch) (dC : Nat → ClassId) (dI : Nat → Nat → Nat) (cs : Nat → ClassId) (al : Nat → Nat) (bx : Nat → Nat) (sz : Nat) (l_len : Nat → Int32) (l_ways : Nat → Int64) (l_box : Nat → Nat → Int32) (a1 : Int32) {Q : Int32 → (Nat → Int32) → Prop} (hq : q0_emptyOne l_len a1 Q) : Met l yX0_emptyOne (.code yX0_emptyOne cX0_emptyOne 3 (some .int) :: gt) ({ frames := 1, cells := 0, slots := 0, locals := 21 } : Room) (va_Pc [.ref (al 0), .int a1] (Pw (dC, dI) (KA cs) (wX0 cs al bx l_len l_ways l_box) sz)) (va_Qi (fun (r : Int32) (u : (Nat → Int32)) => Q r u) (Bw (dC, dI) (KA cs) (va_A (wX0 cs al bx l_len l_ways l_box) sz) (fun u : (Nat → Int32) => (wX0 cs al bx u l_ways l_box))) (va_A (wX0 cs al bx l_len l_ways l_box) sz)) 0 0 (va_A (wX0 cs al bx l_len l_ways l_box) sz) := by
  refine Met.ofW (cc := cX0_emptyOne) (maxL := 3) (ret := (some .int)) (by decide) rfl ?_
  intro p e s m args below meth c s₁ B hml hv
  obtain ⟨rfl, hsz, hP, hK, hD0, hN⟩ := hv
  have hx := B.exec
  have hb := B.bytes
  have hr := B.returns
  have hts0 := atoms_spec (ws := (.code yX0_emptyOne cX0_emptyOne 3 (some .int) :: gt)) B.pre
  have hts : ∀ w ∈ gt, w.before _ s = true := fun w h => hts0 w (List.mem_cons_of_mem _ h)
  have hown : s.vm.findClass RX0 = some m.cls := findClass_of_methodNamed B.named
  have hlocks := B.notSynchronized
  subst hsz
  have hD := hD0.self (sz := s.heap.size)
  generalize hAe : va_A (wX0 cs al bx l_len l_ways l_box) s.heap.size = A at hD ⊢
  have hA : ∀ q : Nat, s.heap.size ≤ q → A q := fun q h => by rw [← hAe]; exact Or.inr h
  have hS : va_S A s.heap s.heap [] := va_S.rf
  have hl := lv_entry ([.ref (al 0), .int a1]) (n := 3) (Nat.le_of_ble_eq_true rfl)
  rw [lg_entry_eq]
  generalize (lg_sl ([.ref (al 0), .int a1]) ++ List.replicate (3 - (lg_sl ([.ref (al 0), .int a1])).length) Slot.unset).toArray = ls at hl ⊢
  have hl : lv_has ls 3 [(0, .ref (al 0)), (1, .int a1)] := hl
  unfold q0_emptyOne at hq
  refine lv_aload_n hx hb dX0_emptyOne_0 rfl (lv_at hl 0 rfl) ?_
  refine lv_iload_n hx hb dX0_emptyOne_1 rfl (lv_at hl 1 rfl) ?_
  refine roi (runV ⟨hx, hb, hml, hown, hts⟩ wf_X0_holds ml_X0_24 (c0_holds l dC dI cs al bx l_len l_ways l_box a1 hq) ⟨⟨rfl, rfl⟩, by decide, by decide⟩ (preR hP hK hN) hK hP rfl 0 rfl rfl hl.1 rfl (Nat.le_of_ble_eq_true rfl) dX0_emptyOne_2 ⟨(Nat.le_of_ble_eq_true rfl), (Nat.le_of_ble_eq_true rfl)⟩) (fun r5 hq => ?_)
  refine lv_if_ne (tgt := 10) hx hb dX0_emptyOne_5 (by decide) (fun c6 => ?_) (fun c6 => ?_)
  · have hq := hq.1 c6
    refine lv_aload_n hx hb dX0_emptyOne_10 rfl (lv_at hl 0 rfl) ?_
    refine va_get (D := (dC, dI)) (ci := 0) (v := .ref (al 2)) (C := RX0) (T := TX0) (N := 3) hx hb hts uwX0 hown hK hP 0 rfl rfl 1 (by decide) (hts _ fl_X0_16) (fun _ h9 => h9) rfl dX0_emptyOne_11 ?_
    refine lv_iload_n hx hb dX0_emptyOne_14 rfl (lv_at hl 1 rfl) ?_
    obtain ⟨i7, hq⟩ := hq
    refine va_iald hx hb hK hP 2 0 rfl rfl i7 dX0_emptyOne_15 ?_
    refine lv_istore_n (lv' := [(2, .int (l_len a1.toNatClampNeg)), (0, .ref (al 0)), (1, .int a1)]) hx hb dX0_emptyOne_16 rfl hl (by decide) rfl (fun ls hl => ?_)
    refine lv_aload_n hx hb dX0_emptyOne_17 rfl (lv_at hl 1 rfl) ?_
    refine va_get (D := (dC, dI)) (ci := 0) (v := .ref (al 2)) (C := RX0) (T := TX0) (N := 3) hx hb hts uwX0 hown hK hP 0 rfl rfl 1 (by decide) (hts _ fl_X0_16) (fun _ h9 => h9) rfl dX0_emptyOne_18 ?_
    refine lv_iload_n hx hb dX0_emptyOne_21 rfl (lv_at hl 2 rfl) ?_
    refine lv_iconst (v := (0 : Int32)) hx hb dX0_emptyOne_22 (by decide) ?_
    obtain ⟨i8, hq⟩ := hq
    refine va_iast hx hb hK hP hD hS 2 0 rfl rfl i8 dX0_emptyOne_23 (fun H locs hP hD hS => ?_)
    have hP : va_P (dC, dI) vwCl (wX0 cs al bx (upd l_len a1.toNatClampNeg (0 : Int32)) l_ways l_box) H := hP
    have hD : va_D A (wX0 cs al bx (upd l_len a1.toNatClampNeg (0 : Int32)) l_ways l_box) := hD
    refine lv_iload_n hx hb dX0_emptyOne_24 rfl (lv_at hl 0 rfl) ?_
    exact W.iret (v := (l_len a1.toNatClampNeg)) hx hb hr (fun t ht hW => ⟨⟨(l_len a1.toNatClampNeg), (upd l_len a1.toNatClampNeg (0 : Int32)), rfl, hq, Bw_mk (by rw [ht]; exact hP) (va_K.moved hW.alike hK) hD⟩, hS.F ht⟩) hS.2.2 dX0_emptyOne_25
  · have hq := hq.2 c6
    refine lv_iconst (v := (0 : Int32)) hx hb dX0_emptyOne_8 (by decide) ?_
    exact W.iret (v := (0 : Int32)) hx hb hr (fun t ht hW => ⟨⟨(0 : Int32), l_len, rfl, hq, Bw_mk (by rw [ht]; exact hP) (va_K.moved hW.alike hK) hD⟩, hS.F ht⟩) hS.2.2 dX0_emptyOne_9
set_option maxHeartbeats 4000000 in
set_option maxRecDepth 100000 in
theorem c0_firstOf (l : Launch) (dC : Nat → ClassId) (dI : Nat → Nat → Nat) (cs : Nat → ClassId) (al : Nat → Nat) (bx : Nat → Nat) (l_len : Nat → Int32) (l_ways : Nat → Int64) (l_box : Nat → Nat → Int32) (a1 : Int32) (a2 : Int32) {Q : Int32 → Prop} (hq : q0_firstOf l_len a1 a2 Q) : Met l yX0_firstOf (.code yX0_firstOf cX0_firstOf 3 (some .int) :: gt) ({ frames := 1, cells := 0, slots := 0, locals := 21 } : Room) (va_Pc [.ref (al 0), .int a1, .int a2] (Pr (dC, dI) (KA cs) (wX0 cs al bx l_len l_ways l_box))) (vp_Si Q) 0 0 (fun _ => False) := by
  refine Met.ofW (cc := cX0_firstOf) (maxL := 3) (ret := (some .int)) (by decide) rfl ?_
  intro p e s m args below meth c s₁ B hml hv
  obtain ⟨rfl, hP, hK, hN⟩ := hv
  have hx := B.exec
  have hb := B.bytes
  have hr := B.returns
  have hts0 := atoms_spec (ws := (.code yX0_firstOf cX0_firstOf 3 (some .int) :: gt)) B.pre
  have hts : ∀ w ∈ gt, w.before _ s = true := fun w h => hts0 w (List.mem_cons_of_mem _ h)
  have hown : s.vm.findClass RX0 = some m.cls := findClass_of_methodNamed B.named
  have hlocks := B.notSynchronized
  have hl := lv_entry ([.ref (al 0), .int a1, .int a2]) (n := 3) (Nat.le_of_ble_eq_true rfl)
  rw [lg_entry_eq]
  generalize (lg_sl ([.ref (al 0), .int a1, .int a2]) ++ List.replicate (3 - (lg_sl ([.ref (al 0), .int a1, .int a2])).length) Slot.unset).toArray = ls at hl ⊢
  have hl : lv_has ls 3 [(0, .ref (al 0)), (1, .int a1), (2, .int a2)] := hl
  unfold q0_firstOf at hq
  refine lv_aload_n hx hb dX0_firstOf_0 rfl (lv_at hl 0 rfl) ?_
  refine lv_iload_n hx hb dX0_firstOf_1 rfl (lv_at hl 1 rfl) ?_
  refine roi (runV ⟨hx, hb, hml, hown, hts⟩ wf_X0_holds ml_X0_24 (c0_holds l dC dI cs al bx l_len l_ways l_box a1 hq) ⟨⟨rfl, rfl⟩, by decide, by decide⟩ (preR hP hK hN) hK hP rfl 0 rfl rfl hl.1 rfl (Nat.le_of_ble_eq_true rfl) dX0_firstOf_2 ⟨(Nat.le_of_ble_eq_true rfl), (Nat.le_of_ble_eq_true rfl)⟩) (fun r4 hq => ?_)
  refine lv_if_eq (tgt := 26) hx hb dX0_firstOf_5 (by decide) (fun c5 => ?_) (fun c5 => ?_)
  · have hq := hq.1 c5
    refine lv_iconst (v := (0 : Int32)) hx hb dX0_firstOf_26 (by decide) ?_
    exact W.iret (v := (0 : Int32)) hx hb hr (fun t ht hW => ⟨(0 : Int32), rfl, hq, ht⟩) (fun q h => absurd h List.not_mem_nil) dX0_firstOf_27
  · have hq := hq.2 c5
    refine lv_aload_n hx hb dX0_firstOf_8 rfl (lv_at hl 0 rfl) ?_
    refine va_get (D := (dC, dI)) (ci := 0) (v := .ref (al 2)) (C := RX0) (T := TX0) (N := 3) hx hb hts uwX0 hown hK hP 0 rfl rfl 1 (by decide) (hts _ fl_X0_16) (fun _ h9 => h9) rfl dX0_firstOf_9 ?_
    refine lv_iload_n hx hb dX0_firstOf_12 rfl (lv_at hl 1 rfl) ?_
    obtain ⟨i6, hq⟩ := hq
    refine va_iald hx hb hK hP 2 0 rfl rfl i6 dX0_firstOf_13 ?_
    refine lv_iload_n hx hb dX0_firstOf_14 rfl (lv_at hl 2 rfl) ?_
    refine lv_bipush (v := (18 : Int32)) hx hb dX0_firstOf_15 (by decide) ?_
    refine va_mmin hx hb (hml.trans hl.1.symm) hown (hts _ ml_X0_32) (hts _ sm_J9_min) (hts _ in_J9) (hts _ cw_J9_min) (Nat.le_of_ble_eq_true rfl) (Nat.le_of_ble_eq_true rfl) (Nat.le_of_ble_eq_true rfl) (Nat.le_of_ble_eq_true rfl) dX0_firstOf_17 ?_
    refine va_mmin hx hb (hml.trans hl.1.symm) hown (hts _ ml_X0_32) (hts _ sm_J9_min) (hts _ in_J9) (hts _ cw_J9_min) (Nat.le_of_ble_eq_true rfl) (Nat.le_of_ble_eq_true rfl) (Nat.le_of_ble_eq_true rfl) (Nat.le_of_ble_eq_true rfl) dX0_firstOf_20 ?_
    refine lv_goto (tgt := 27) hx hb dX0_firstOf_23 (by decide) ?_
    exact W.iret (v := (if (if (18 : Int32) < a2 then (18 : Int32) else a2) < (l_len a1.toNatClampNeg) then (if (18 : Int32) < a2 then (18 : Int32) else a2) else (l_len a1.toNatClampNeg))) hx hb hr (fun t ht hW => ⟨(if (if (18 : Int32) < a2 then (18 : Int32) else a2) < (l_len a1.toNatClampNeg) then (if (18 : Int32) < a2 then (18 : Int32) else a2) else (l_len a1.toNatClampNeg)), rfl, hq, ht⟩) (fun q h => absurd h List.not_mem_nil) dX0_firstOf_27
set_option maxHeartbeats 4000000 in
set_option maxRecDepth 100000 in
theorem c0_hasBox (l : Launch) (dC : Nat → ClassId) (dI : Nat → Nat → Nat) (cs : Nat → ClassId) (al : Nat → Nat) (bx : Nat → Nat) (l_len : Nat → Int32) (l_ways : Nat → Int64) (l_box : Nat → Nat → Int32) (a1 : Int32) (a2 : Int32) {Q : Int32 → Prop} (hq : q0_hasBox l_len l_box a1 a2 Q) : Met l yX0_hasBox (.code yX0_hasBox cX0_hasBox 5 (some .boolean) :: gt) ({ frames := 2, cells := 0, slots := 0, locals := 43 } : Room) (va_Pc [.ref (al 0), .int a1, .int a2] (Pr (dC, dI) (KA cs) (wX0 cs al bx l_len l_ways l_box))) (vp_Si Q) 0 0 (fun _ => False) := by
  refine Met.ofW (cc := cX0_hasBox) (maxL := 5) (ret := (some .boolean)) (by decide) rfl ?_
  intro p e s m args below meth c s₁ B hml hv
  obtain ⟨rfl, hP, hK, hN⟩ := hv
  have hx := B.exec
  have hb := B.bytes
  have hr := B.returns
  have hts0 := atoms_spec (ws := (.code yX0_hasBox cX0_hasBox 5 (some .boolean) :: gt)) B.pre
  have hts : ∀ w ∈ gt, w.before _ s = true := fun w h => hts0 w (List.mem_cons_of_mem _ h)
  have hown : s.vm.findClass RX0 = some m.cls := findClass_of_methodNamed B.named
  have hlocks := B.notSynchronized
  have hl := lv_entry ([.ref (al 0), .int a1, .int a2]) (n := 5) (Nat.le_of_ble_eq_true rfl)
  rw [lg_entry_eq]
  generalize (lg_sl ([.ref (al 0), .int a1, .int a2]) ++ List.replicate (5 - (lg_sl ([.ref (al 0), .int a1, .int a2])).length) Slot.unset).toArray = ls at hl ⊢
  have hl : lv_has ls 5 [(0, .ref (al 0)), (1, .int a1), (2, .int a2)] := hl
  have B11 : ∀ (k11 : Nat) (x1 : Int32) (x2 : Int32) (x3 : Int32) (x4 : Int32) (ls : Array Slot), q0_hasBox_11 l_len l_box Q k11 x1 x2 x3 x4 → lv_has ls 5 [(0, .ref (al 0)), (1, .int x1), (2, .int x2), (3, .int x3), (4, .int x4)] → W p l e ({ frames := 2, cells := 0, slots := 0, locals := 43 } : Room) s m ([.ref (al 0), .int a1, .int a2] : List Value).toArray below meth c s.heap [] 0 0 (MQ below (vp_Si Q) ([.ref (al 0), .int a1, .int a2] : List Value).toArray s 0 0 (fun _ => False)) (F0 m 11 ls []) := by
    intro k11
    induction k11 with
    | zero => intro x1 x2 x3 x4 ls hq; exact False.elim hq
    | succ k11 ih11 =>
      intro x1 x2 x3 x4 ls hq hl
      unfold q0_hasBox_11 at hq
      refine lv_iload hx hb dX0_hasBox_11 (lv_at hl 4 rfl) ?_
      refine lv_iload_n hx hb dX0_hasBox_13 rfl (lv_at hl 3 rfl) ?_
      refine lv_icmp_ge (tgt := 38) hx hb dX0_hasBox_14 (by decide) (fun c6 => ?_) (fun c6 => ?_)
      · have hq := hq.1 c6
        refine lv_iconst (v := (0 : Int32)) hx hb dX0_hasBox_38 (by decide) ?_
        exact W.zret (ty := .boolean) (v := (0 : Int32)) hx hb hr rfl (fun t ht hW => ⟨(0 : Int32), rfl, hq, ht⟩) (fun q h => absurd h List.not_mem_nil) dX0_hasBox_39
      · have hq := hq.2 c6
        refine lv_aload_n hx hb dX0_hasBox_17 rfl (lv_at hl 0 rfl) ?_
        refine va_get (D := (dC, dI)) (ci := 0) (v := .ref (al 1)) (C := RX0) (T := TX0) (N := 3) hx hb hts uwX0 hown hK hP 0 rfl rfl 0 (by decide) (hts _ fl_X0_11) (fun _ h9 => h9) rfl dX0_hasBox_18 ?_
        refine lv_iload_n hx hb dX0_hasBox_21 rfl (lv_at hl 1 rfl) ?_
        obtain ⟨i7, hq⟩ := hq
        refine va_alda hx hb hK hP 1 5 rfl rfl i7 dX0_hasBox_22 ?_
        refine W.eq (g2 := F0 m 23 ls (.ref (bx x1.toNatClampNeg) :: [])) rfl ?_
        refine lv_iload hx hb dX0_hasBox_23 (lv_at hl 4 rfl) ?_
        obtain ⟨i8, hq⟩ := hq
        refine va_iald hx hb hK hP (4 + x1.toNatClampNeg) 0 (fam_get_wX0_4 (vp_lt i7)) rfl i8 dX0_hasBox_25 ?_
        refine lv_iload_n hx hb dX0_hasBox_26 rfl (lv_at hl 2 rfl) ?_
        refine lv_icmp_ne (tgt := 32) hx hb dX0_hasBox_27 (by decide) (fun c9 => ?_) (fun c9 => ?_)
        · have hq := hq.1 c9
          refine lv_iinc (v := (x4 + (1 : Int32))) (lv' := [(4, .int (x4 + (1 : Int32))), (0, .ref (al 0)), (1, .int x1), (2, .int x2), (3, .int x3)]) hx hb dX0_hasBox_32 hl (k := 4) rfl (by rfl) (by decide) rfl (fun ls hl => ?_)
          refine lv_goto (tgt := 11) hx hb dX0_hasBox_35 (by decide) ?_
          exact ih11 x1 x2 x3 (x4 + (1 : Int32)) _ hq (lv_sub hl [1, 2, 3, 4, 0] rfl)
        · have hq := hq.2 c9
          refine lv_iconst (v := (1 : Int32)) hx hb dX0_hasBox_30 (by decide) ?_
          exact W.zret (ty := .boolean) (v := (1 : Int32)) hx hb hr rfl (fun t ht hW => ⟨(1 : Int32), rfl, hq, ht⟩) (fun q h => absurd h List.not_mem_nil) dX0_hasBox_31
  unfold q0_hasBox at hq
  refine lv_aload_n hx hb dX0_hasBox_0 rfl (lv_at hl 0 rfl) ?_
  refine lv_iload_n hx hb dX0_hasBox_1 rfl (lv_at hl 1 rfl) ?_
  refine lv_bipush (v := (18 : Int32)) hx hb dX0_hasBox_2 (by decide) ?_
  refine roi (runV ⟨hx, hb, hml, hown, hts⟩ wf_X0_firstOf ml_X0_28 (c0_firstOf l dC dI cs al bx l_len l_ways l_box a1 (18 : Int32) hq) ⟨⟨rfl, rfl⟩, by decide, by decide⟩ (preR hP hK hN) hK hP rfl 0 rfl rfl hl.1 rfl (Nat.le_of_ble_eq_true rfl) dX0_hasBox_4 ⟨(Nat.le_of_ble_eq_true rfl), (Nat.le_of_ble_eq_true rfl)⟩) (fun r10 hq => ?_)
  refine lv_istore_n (lv' := [(3, .int r10), (0, .ref (al 0)), (1, .int a1), (2, .int a2)]) hx hb dX0_hasBox_7 rfl hl (by decide) rfl (fun ls hl => ?_)
  refine lv_iconst (v := (0 : Int32)) hx hb dX0_hasBox_8 (by decide) ?_
  refine lv_istore (lv' := [(4, .int (0 : Int32)), (3, .int r10), (0, .ref (al 0)), (1, .int a1), (2, .int a2)]) hx hb dX0_hasBox_9 hl (by decide) rfl (fun ls hl => ?_)
  obtain ⟨kf, hq⟩ := hq
  exact B11 kf a1 a2 r10 (0 : Int32) _ hq (lv_sub hl [2, 3, 4, 1, 0] rfl)
set_option maxHeartbeats 4000000 in
set_option maxRecDepth 100000 in
theorem c0_addBox (l : Launch) (dC : Nat → ClassId) (dI : Nat → Nat → Nat) (cs : Nat → ClassId) (al : Nat → Nat) (bx : Nat → Nat) (sz : Nat) (l_len : Nat → Int32) (l_ways : Nat → Int64) (l_box : Nat → Nat → Int32) (a1 : Int32) (a2 : Int32) {Q : Int32 → (Nat → Int32) → (Nat → Nat → Int32) → Prop} (hq : q0_addBox l_len l_box a1 a2 Q) : Met l yX0_addBox (.code yX0_addBox cX0_addBox 3 (some .int) :: gt) ({ frames := 1, cells := 0, slots := 0, locals := 21 } : Room) (va_Pc [.ref (al 0), .int a1, .int a2] (Pw (dC, dI) (KA cs) (wX0 cs al bx l_len l_ways l_box) sz)) (va_Qi (fun (r : Int32) (u : (Nat → Int32) × (Nat → Nat → Int32)) => Q r u.1 u.2) (Bw (dC, dI) (KA cs) (va_A (wX0 cs al bx l_len l_ways l_box) sz) (fun u : (Nat → Int32) × (Nat → Nat → Int32) => (wX0 cs al bx u.1 l_ways u.2))) (va_A (wX0 cs al bx l_len l_ways l_box) sz)) 0 0 (va_A (wX0 cs al bx l_len l_ways l_box) sz) := by
  refine Met.ofW (cc := cX0_addBox) (maxL := 3) (ret := (some .int)) (by decide) rfl ?_
  intro p e s m args below meth c s₁ B hml hv
  obtain ⟨rfl, hsz, hP, hK, hD0, hN⟩ := hv
  have hx := B.exec
  have hb := B.bytes
  have hr := B.returns
  have hts0 := atoms_spec (ws := (.code yX0_addBox cX0_addBox 3 (some .int) :: gt)) B.pre
  have hts : ∀ w ∈ gt, w.before _ s = true := fun w h => hts0 w (List.mem_cons_of_mem _ h)
  have hown : s.vm.findClass RX0 = some m.cls := findClass_of_methodNamed B.named
  have hlocks := B.notSynchronized
  subst hsz
  have hD := hD0.self (sz := s.heap.size)
  generalize hAe : va_A (wX0 cs al bx l_len l_ways l_box) s.heap.size = A at hD ⊢
  have hA : ∀ q : Nat, s.heap.size ≤ q → A q := fun q h => by rw [← hAe]; exact Or.inr h
  have hS : va_S A s.heap s.heap [] := va_S.rf
  have hl := lv_entry ([.ref (al 0), .int a1, .int a2]) (n := 3) (Nat.le_of_ble_eq_true rfl)
  rw [lg_entry_eq]
  generalize (lg_sl ([.ref (al 0), .int a1, .int a2]) ++ List.replicate (3 - (lg_sl ([.ref (al 0), .int a1, .int a2])).length) Slot.unset).toArray = ls at hl ⊢
  have hl : lv_has ls 3 [(0, .ref (al 0)), (1, .int a1), (2, .int a2)] := hl
  unfold q0_addBox at hq
  refine lv_aload_n hx hb dX0_addBox_0 rfl (lv_at hl 0 rfl) ?_
  refine lv_iload_n hx hb dX0_addBox_1 rfl (lv_at hl 1 rfl) ?_
  refine roi (runV ⟨hx, hb, hml, hown, hts⟩ wf_X0_holds ml_X0_24 (c0_holds l dC dI cs al bx l_len l_ways l_box a1 hq) ⟨⟨rfl, rfl⟩, by decide, by decide⟩ (preR hP hK hN) hK hP rfl 0 rfl rfl hl.1 rfl (Nat.le_of_ble_eq_true rfl) dX0_addBox_2 ⟨(Nat.le_of_ble_eq_true rfl), (Nat.le_of_ble_eq_true rfl)⟩) (fun r11 hq => ?_)
  refine lv_if_eq (tgt := 19) hx hb dX0_addBox_5 (by decide) (fun c12 => ?_) (fun c12 => ?_)
  · have hq := hq.1 c12
    refine lv_bipush (v := (-2 : Int32)) hx hb dX0_addBox_19 (by decide) ?_
    exact W.iret (v := (-2 : Int32)) hx hb hr (fun t ht hW => ⟨⟨(-2 : Int32), (l_len, l_box), rfl, hq, Bw_mk (by rw [ht]; exact hP) (va_K.moved hW.alike hK) hD⟩, hS.F ht⟩) hS.2.2 dX0_addBox_21
  · have hq := hq.2 c12
    refine lv_aload_n hx hb dX0_addBox_8 rfl (lv_at hl 0 rfl) ?_
    refine va_get (D := (dC, dI)) (ci := 0) (v := .ref (al 2)) (C := RX0) (T := TX0) (N := 3) hx hb hts uwX0 hown hK hP 0 rfl rfl 1 (by decide) (hts _ fl_X0_16) (fun _ h9 => h9) rfl dX0_addBox_9 ?_
    refine lv_iload_n hx hb dX0_addBox_12 rfl (lv_at hl 1 rfl) ?_
    obtain ⟨i13, hq⟩ := hq
    refine va_iald hx hb hK hP 2 0 rfl rfl i13 dX0_addBox_13 ?_
    refine lv_bipush (v := (18 : Int32)) hx hb dX0_addBox_14 (by decide) ?_
    refine lv_icmp_lt (tgt := 22) hx hb dX0_addBox_16 (by decide) (fun c14 => ?_) (fun c14 => ?_)
    · have hq := hq.1 c14
      refine lv_aload_n hx hb dX0_addBox_22 rfl (lv_at hl 0 rfl) ?_
      refine va_get (D := (dC, dI)) (ci := 0) (v := .ref (al 1)) (C := RX0) (T := TX0) (N := 3) hx hb hts uwX0 hown hK hP 0 rfl rfl 0 (by decide) (hts _ fl_X0_11) (fun _ h9 => h9) rfl dX0_addBox_23 ?_
      refine lv_iload_n hx hb dX0_addBox_26 rfl (lv_at hl 1 rfl) ?_
      obtain ⟨i15, hq⟩ := hq
      refine va_alda hx hb hK hP 1 5 rfl rfl i15 dX0_addBox_27 ?_
      refine W.eq (g2 := F0 m 28 ls (.ref (bx a1.toNatClampNeg) :: [])) rfl ?_
      refine lv_aload_n hx hb dX0_addBox_28 rfl (lv_at hl 0 rfl) ?_
      refine va_get (D := (dC, dI)) (ci := 0) (v := .ref (al 2)) (C := RX0) (T := TX0) (N := 3) hx hb hts uwX0 hown hK hP 0 rfl rfl 1 (by decide) (hts _ fl_X0_16) (fun _ h9 => h9) rfl dX0_addBox_29 ?_
      refine lv_iload_n hx hb dX0_addBox_32 rfl (lv_at hl 1 rfl) ?_
      obtain ⟨i16, hq⟩ := hq
      refine va_iald hx hb hK hP 2 0 rfl rfl i16 dX0_addBox_33 ?_
      refine lv_iload_n hx hb dX0_addBox_34 rfl (lv_at hl 2 rfl) ?_
      obtain ⟨i17, hq⟩ := hq
      refine va_iast hx hb hK hP hD hS (4 + a1.toNatClampNeg) 0 (fam_get_wX0_4 (vp_lt i15)) rfl i17 dX0_addBox_35 (fun H locs hP hD hS => ?_)
      rw [fam_set_wX0_4 (vp_lt i15)] at hP hD
      have hP : va_P (dC, dI) vwCl (wX0 cs al bx l_len l_ways (va_up l_box a1.toNatClampNeg (upd (l_box a1.toNatClampNeg) (l_len a1.toNatClampNeg).toNatClampNeg a2))) H := hP
      have hD : va_D A (wX0 cs al bx l_len l_ways (va_up l_box a1.toNatClampNeg (upd (l_box a1.toNatClampNeg) (l_len a1.toNatClampNeg).toNatClampNeg a2))) := hD
      refine lv_aload_n hx hb dX0_addBox_36 rfl (lv_at hl 0 rfl) ?_
      refine va_get (D := (dC, dI)) (ci := 0) (v := .ref (al 2)) (C := RX0) (T := TX0) (N := 3) hx hb hts uwX0 hown hK hP 0 rfl rfl 1 (by decide) (hts _ fl_X0_16) (fun _ h9 => h9) rfl dX0_addBox_37 ?_
      refine lv_iload_n hx hb dX0_addBox_40 rfl (lv_at hl 1 rfl) ?_
      refine lv_dup2_11 hx hb dX0_addBox_41 rfl rfl ?_
      obtain ⟨i18, hq⟩ := hq
      refine va_iald hx hb hK hP 2 0 rfl rfl i18 dX0_addBox_42 ?_
      refine lv_iconst (v := (1 : Int32)) hx hb dX0_addBox_43 (by decide) ?_
      refine lv_iadd hx hb dX0_addBox_44 ?_
      obtain ⟨i19, hq⟩ := hq
      refine va_iast hx hb hK hP hD hS 2 0 rfl rfl i19 dX0_addBox_45 (fun H locs hP hD hS => ?_)
      have hP : va_P (dC, dI) vwCl (wX0 cs al bx (upd l_len a1.toNatClampNeg ((l_len a1.toNatClampNeg) + (1 : Int32))) l_ways (va_up l_box a1.toNatClampNeg (upd (l_box a1.toNatClampNeg) (l_len a1.toNatClampNeg).toNatClampNeg a2))) H := hP
      have hD : va_D A (wX0 cs al bx (upd l_len a1.toNatClampNeg ((l_len a1.toNatClampNeg) + (1 : Int32))) l_ways (va_up l_box a1.toNatClampNeg (upd (l_box a1.toNatClampNeg) (l_len a1.toNatClampNeg).toNatClampNeg a2))) := hD
      refine lv_aload_n hx hb dX0_addBox_46 rfl (lv_at hl 0 rfl) ?_
      refine va_get (D := (dC, dI)) (ci := 0) (v := .ref (al 2)) (C := RX0) (T := TX0) (N := 3) hx hb hts uwX0 hown hK hP 0 rfl rfl 1 (by decide) (hts _ fl_X0_16) (fun _ h9 => h9) rfl dX0_addBox_47 ?_
      refine lv_iload_n hx hb dX0_addBox_50 rfl (lv_at hl 1 rfl) ?_
      obtain ⟨i20, hq⟩ := hq
      refine va_iald hx hb hK hP 2 0 rfl rfl i20 dX0_addBox_51 ?_
      exact W.iret (v := ((upd l_len a1.toNatClampNeg ((l_len a1.toNatClampNeg) + (1 : Int32))) a1.toNatClampNeg)) hx hb hr (fun t ht hW => ⟨⟨((upd l_len a1.toNatClampNeg ((l_len a1.toNatClampNeg) + (1 : Int32))) a1.toNatClampNeg), ((upd l_len a1.toNatClampNeg ((l_len a1.toNatClampNeg) + (1 : Int32))), (va_up l_box a1.toNatClampNeg (upd (l_box a1.toNatClampNeg) (l_len a1.toNatClampNeg).toNatClampNeg a2))), rfl, hq, Bw_mk (by rw [ht]; exact hP) (va_K.moved hW.alike hK) hD⟩, hS.F ht⟩) hS.2.2 dX0_addBox_52
    · have hq := hq.2 c14
      refine lv_bipush (v := (-2 : Int32)) hx hb dX0_addBox_19 (by decide) ?_
      exact W.iret (v := (-2 : Int32)) hx hb hr (fun t ht hW => ⟨⟨(-2 : Int32), (l_len, l_box), rfl, hq, Bw_mk (by rw [ht]; exact hP) (va_K.moved hW.alike hK) hD⟩, hS.F ht⟩) hS.2.2 dX0_addBox_21
set_option maxHeartbeats 4000000 in
set_option maxRecDepth 100000 in
theorem c0_boxesInAll (l : Launch) (dC : Nat → ClassId) (dI : Nat → Nat → Nat) (cs : Nat → ClassId) (al : Nat → Nat) (bx : Nat → Nat) (l_len : Nat → Int32) (l_ways : Nat → Int64) (l_box : Nat → Nat → Int32) {Q : Int32 → Prop} (hq : q0_boxesInAll l_len Q) : Met l yX0_boxesInAll (.code yX0_boxesInAll cX0_boxesInAll 3 (some .int) :: gt) ({ frames := 0, cells := 0, slots := 0, locals := 0 } : Room) (va_Pc [.ref (al 0)] (Pr (dC, dI) (KA cs) (wX0 cs al bx l_len l_ways l_box))) (vp_Si Q) 0 0 (fun _ => False) := by
  refine Met.ofW (cc := cX0_boxesInAll) (maxL := 3) (ret := (some .int)) (by decide) rfl ?_
  intro p e s m args below meth c s₁ B hml hv
  obtain ⟨rfl, hP, hK, hN⟩ := hv
  have hx := B.exec
  have hb := B.bytes
  have hr := B.returns
  have hts0 := atoms_spec (ws := (.code yX0_boxesInAll cX0_boxesInAll 3 (some .int) :: gt)) B.pre
  have hts : ∀ w ∈ gt, w.before _ s = true := fun w h => hts0 w (List.mem_cons_of_mem _ h)
  have hown : s.vm.findClass RX0 = some m.cls := findClass_of_methodNamed B.named
  have hlocks := B.notSynchronized
  have hl := lv_entry ([.ref (al 0)]) (n := 3) (Nat.le_of_ble_eq_true rfl)
  rw [lg_entry_eq]
  generalize (lg_sl ([.ref (al 0)]) ++ List.replicate (3 - (lg_sl ([.ref (al 0)])).length) Slot.unset).toArray = ls at hl ⊢
  have hl : lv_has ls 3 [(0, .ref (al 0))] := hl
  have B4 : ∀ (k4 : Nat) (x1 : Int32) (x2 : Int32) (ls : Array Slot), q0_boxesInAll_4 l_len Q k4 x1 x2 → lv_has ls 3 [(0, .ref (al 0)), (1, .int x1), (2, .int x2)] → W p l e ({ frames := 0, cells := 0, slots := 0, locals := 0 } : Room) s m ([.ref (al 0)] : List Value).toArray below meth c s.heap [] 0 0 (MQ below (vp_Si Q) ([.ref (al 0)] : List Value).toArray s 0 0 (fun _ => False)) (F0 m 4 ls []) := by
    intro k4
    induction k4 with
    | zero => intro x1 x2 ls hq; exact False.elim hq
    | succ k4 ih4 =>
      intro x1 x2 ls hq hl
      unfold q0_boxesInAll_4 at hq
      refine lv_iload_n hx hb dX0_boxesInAll_4 rfl (lv_at hl 2 rfl) ?_
      refine lv_bipush (v := (18 : Int32)) hx hb dX0_boxesInAll_5 (by decide) ?_
      refine lv_icmp_ge (tgt := 25) hx hb dX0_boxesInAll_7 (by decide) (fun c3 => ?_) (fun c3 => ?_)
      · have hq := hq.1 c3
        refine lv_iload_n hx hb dX0_boxesInAll_25 rfl (lv_at hl 1 rfl) ?_
        exact W.iret (v := x1) hx hb hr (fun t ht hW => ⟨x1, rfl, hq, ht⟩) (fun q h => absurd h List.not_mem_nil) dX0_boxesInAll_26
      · have hq := hq.2 c3
        refine lv_iload_n hx hb dX0_boxesInAll_10 rfl (lv_at hl 1 rfl) ?_
        refine lv_aload_n hx hb dX0_boxesInAll_11 rfl (lv_at hl 0 rfl) ?_
        refine va_get (D := (dC, dI)) (ci := 0) (v := .ref (al 2)) (C := RX0) (T := TX0) (N := 3) hx hb hts uwX0 hown hK hP 0 rfl rfl 1 (by decide) (hts _ fl_X0_16) (fun _ h9 => h9) rfl dX0_boxesInAll_12 ?_
        refine lv_iload_n hx hb dX0_boxesInAll_15 rfl (lv_at hl 2 rfl) ?_
        obtain ⟨i4, hq⟩ := hq
        refine va_iald hx hb hK hP 2 0 rfl rfl i4 dX0_boxesInAll_16 ?_
        refine lv_iadd hx hb dX0_boxesInAll_17 ?_
        refine lv_istore_n (lv' := [(1, .int (x1 + (l_len x2.toNatClampNeg))), (0, .ref (al 0)), (2, .int x2)]) hx hb dX0_boxesInAll_18 rfl hl (by decide) rfl (fun ls hl => ?_)
        refine lv_iinc (v := (x2 + (1 : Int32))) (lv' := [(2, .int (x2 + (1 : Int32))), (1, .int (x1 + (l_len x2.toNatClampNeg))), (0, .ref (al 0))]) hx hb dX0_boxesInAll_19 hl (k := 2) rfl (by rfl) (by decide) rfl (fun ls hl => ?_)
        refine lv_goto (tgt := 4) hx hb dX0_boxesInAll_22 (by decide) ?_
        exact ih4 (x1 + (l_len x2.toNatClampNeg)) (x2 + (1 : Int32)) _ hq (lv_sub hl [2, 1, 0] rfl)
  unfold q0_boxesInAll at hq
  refine lv_iconst (v := (0 : Int32)) hx hb dX0_boxesInAll_0 (by decide) ?_
  refine lv_istore_n (lv' := [(1, .int (0 : Int32)), (0, .ref (al 0))]) hx hb dX0_boxesInAll_1 rfl hl (by decide) rfl (fun ls hl => ?_)
  refine lv_iconst (v := (0 : Int32)) hx hb dX0_boxesInAll_2 (by decide) ?_
  refine lv_istore_n (lv' := [(2, .int (0 : Int32)), (1, .int (0 : Int32)), (0, .ref (al 0))]) hx hb dX0_boxesInAll_3 rfl hl (by decide) rfl (fun ls hl => ?_)
  obtain ⟨kf, hq⟩ := hq
  exact B4 kf (0 : Int32) (0 : Int32) _ hq (lv_sub hl [2, 1, 0] rfl)
set_option maxHeartbeats 4000000 in
set_option maxRecDepth 100000 in
theorem c0_findsOwnThing (l : Launch) (dC : Nat → ClassId) (dI : Nat → Nat → Nat) (cs : Nat → ClassId) (al : Nat → Nat) (bx : Nat → Nat) (po : Nat → Nat) (l_len : Nat → Int32) (l_ways : Nat → Int64) (l_box : Nat → Nat → Int32) (p_row : Nat → Int32) (p_made : Nat → Int32) (p_size : Int32) (a1 : Int32) (a2 : Int32) {Q : Int32 → Prop} (hq : q0_findsOwnThing l_len l_box p_row p_size a1 a2 Q) : Met l yX0_findsOwnThing (.code yX0_findsOwnThing cX0_findsOwnThing 6 (some .boolean) :: gt) ({ frames := 2, cells := 0, slots := 0, locals := 43 } : Room) (va_Pc [.ref (al 0), .int a1, .int a2, .ref (po 0)] (Pr (dC, dI) (KA cs) ((wX0 cs al bx l_len l_ways l_box) ++ (wX1p cs po p_row p_made p_size)))) (vp_Si Q) 0 0 (fun _ => False) := by
  refine Met.ofW (cc := cX0_findsOwnThing) (maxL := 6) (ret := (some .boolean)) (by decide) rfl ?_
  intro p e s m args below meth c s₁ B hml hv
  obtain ⟨rfl, hP0, hK, hN⟩ := hv
  have hP := va_P_l hP0
  have hO := va_P_r hP0
  have hx := B.exec
  have hb := B.bytes
  have hr := B.returns
  have hts0 := atoms_spec (ws := (.code yX0_findsOwnThing cX0_findsOwnThing 6 (some .boolean) :: gt)) B.pre
  have hts : ∀ w ∈ gt, w.before _ s = true := fun w h => hts0 w (List.mem_cons_of_mem _ h)
  have hown : s.vm.findClass RX0 = some m.cls := findClass_of_methodNamed B.named
  have hlocks := B.notSynchronized
  have hl := lv_entry ([.ref (al 0), .int a1, .int a2, .ref (po 0)]) (n := 6) (Nat.le_of_ble_eq_true rfl)
  rw [lg_entry_eq]
  generalize (lg_sl ([.ref (al 0), .int a1, .int a2, .ref (po 0)]) ++ List.replicate (6 - (lg_sl ([.ref (al 0), .int a1, .int a2, .ref (po 0)])).length) Slot.unset).toArray = ls at hl ⊢
  have hl : lv_has ls 6 [(0, .ref (al 0)), (1, .int a1), (2, .int a2), (3, .ref (po 0))] := hl
  have B11 : ∀ (k11 : Nat) (x1 : Int32) (x4 : Int32) (x5 : Int32) (ls : Array Slot), q0_findsOwnThing_11 l_len l_box p_row p_size Q k11 x1 x4 x5 → lv_has ls 6 [(0, .ref (al 0)), (1, .int x1), (3, .ref (po 0)), (4, .int x4), (5, .int x5)] → W p l e ({ frames := 2, cells := 0, slots := 0, locals := 43 } : Room) s m ([.ref (al 0), .int a1, .int a2, .ref (po 0)] : List Value).toArray below meth c s.heap [] 0 0 (MQ below (vp_Si Q) ([.ref (al 0), .int a1, .int a2, .ref (po 0)] : List Value).toArray s 0 0 (fun _ => False)) (F0 m 11 ls []) := by
    intro k11
    induction k11 with
    | zero => intro x1 x4 x5 ls hq; exact False.elim hq
    | succ k11 ih11 =>
      intro x1 x4 x5 ls hq hl
      unfold q0_findsOwnThing_11 at hq
      refine lv_iload hx hb dX0_findsOwnThing_11 (lv_at hl 4 rfl) ?_
      refine lv_iload hx hb dX0_findsOwnThing_13 (lv_at hl 3 rfl) ?_
      refine lv_icmp_ge (tgt := 43) hx hb dX0_findsOwnThing_15 (by decide) (fun c7 => ?_) (fun c7 => ?_)
      · have hq := hq.1 c7
        refine lv_iconst (v := (0 : Int32)) hx hb dX0_findsOwnThing_43 (by decide) ?_
        exact W.zret (ty := .boolean) (v := (0 : Int32)) hx hb hr rfl (fun t ht hW => ⟨(0 : Int32), rfl, hq, ht⟩) (fun q h => absurd h List.not_mem_nil) dX0_findsOwnThing_44
      · have hq := hq.2 c7
        refine lv_aload_n hx hb dX0_findsOwnThing_18 rfl (lv_at hl 2 rfl) ?_
        refine lv_aload_n hx hb dX0_findsOwnThing_19 rfl (lv_at hl 0 rfl) ?_
        refine va_get (D := (dC, dI)) (ci := 0) (v := .ref (al 1)) (C := RX0) (T := TX0) (N := 3) hx hb hts uwX0 hown hK hP 0 rfl rfl 0 (by decide) (hts _ fl_X0_11) (fun _ h9 => h9) rfl dX0_findsOwnThing_20 ?_
        refine lv_iload_n hx hb dX0_findsOwnThing_23 rfl (lv_at hl 1 rfl) ?_
        obtain ⟨i8, hq⟩ := hq
        refine va_alda hx hb hK hP 1 5 rfl rfl i8 dX0_findsOwnThing_24 ?_
        refine W.eq (g2 := F0 m 25 ls (.ref (bx x1.toNatClampNeg) :: [.ref (po 0)])) rfl ?_
        refine lv_iload hx hb dX0_findsOwnThing_25 (lv_at hl 4 rfl) ?_
        obtain ⟨i9, hq⟩ := hq
        refine va_iald hx hb hK hP (4 + x1.toNatClampNeg) 0 (fam_get_wX0_4 (vp_lt i8)) rfl i9 dX0_findsOwnThing_27 ?_
        refine roi (runV ⟨hx, hb, hml, hown, hts⟩ wf_X1_follow ml_X0_37 (c1_follow l dC dI cs po p_row p_made p_size ((l_box x1.toNatClampNeg) x5.toNatClampNeg) hq) ⟨⟨rfl, rfl⟩, by decide, by decide⟩ (preR (hO.sub (ws' := wX1 cs po p_row p_made p_size) [0, 1, 2] rfl) hK hN) hK hO rfl 0 rfl rfl hl.1 rfl (Nat.le_of_ble_eq_true rfl) dX0_findsOwnThing_28 ⟨(Nat.le_of_ble_eq_true rfl), (Nat.le_of_ble_eq_true rfl)⟩) (fun r10 hq => ?_)
        refine lv_iload_n hx hb dX0_findsOwnThing_31 rfl (lv_at hl 1 rfl) ?_
        refine lv_icmp_ne (tgt := 37) hx hb dX0_findsOwnThing_32 (by decide) (fun c11 => ?_) (fun c11 => ?_)
        · have hq := hq.1 c11
          refine lv_iinc (v := (x5 + (1 : Int32))) (lv' := [(5, .int (x5 + (1 : Int32))), (0, .ref (al 0)), (1, .int x1), (3, .ref (po 0)), (4, .int x4)]) hx hb dX0_findsOwnThing_37 hl (k := 4) rfl (by rfl) (by decide) rfl (fun ls hl => ?_)
          refine lv_goto (tgt := 11) hx hb dX0_findsOwnThing_40 (by decide) ?_
          exact ih11 x1 x4 (x5 + (1 : Int32)) _ hq (lv_sub hl [1, 2, 3, 4, 0] rfl)
        · have hq := hq.2 c11
          refine lv_iconst (v := (1 : Int32)) hx hb dX0_findsOwnThing_35 (by decide) ?_
          exact W.zret (ty := .boolean) (v := (1 : Int32)) hx hb hr rfl (fun t ht hW => ⟨(1 : Int32), rfl, hq, ht⟩) (fun q h => absurd h List.not_mem_nil) dX0_findsOwnThing_36
  unfold q0_findsOwnThing at hq
  refine lv_aload_n hx hb dX0_findsOwnThing_0 rfl (lv_at hl 0 rfl) ?_
  refine lv_iload_n hx hb dX0_findsOwnThing_1 rfl (lv_at hl 1 rfl) ?_
  refine lv_iload_n hx hb dX0_findsOwnThing_2 rfl (lv_at hl 2 rfl) ?_
  refine roi (runV ⟨hx, hb, hml, hown, hts⟩ wf_X0_firstOf ml_X0_28 (c0_firstOf l dC dI cs al bx l_len l_ways l_box a1 a2 hq) ⟨⟨rfl, rfl⟩, by decide, by decide⟩ (preR hP hK hN) hK hP rfl 0 rfl rfl hl.1 rfl (Nat.le_of_ble_eq_true rfl) dX0_findsOwnThing_3 ⟨(Nat.le_of_ble_eq_true rfl), (Nat.le_of_ble_eq_true rfl)⟩) (fun r12 hq => ?_)
  refine lv_istore (lv' := [(4, .int r12), (0, .ref (al 0)), (1, .int a1), (2, .int a2), (3, .ref (po 0))]) hx hb dX0_findsOwnThing_6 hl (by decide) rfl (fun ls hl => ?_)
  refine lv_iconst (v := (0 : Int32)) hx hb dX0_findsOwnThing_8 (by decide) ?_
  refine lv_istore (lv' := [(5, .int (0 : Int32)), (4, .int r12), (0, .ref (al 0)), (1, .int a1), (2, .int a2), (3, .ref (po 0))]) hx hb dX0_findsOwnThing_9 hl (by decide) rfl (fun ls hl => ?_)
  obtain ⟨kf, hq⟩ := hq
  exact B11 kf a1 r12 (0 : Int32) _ hq (lv_sub hl [2, 3, 5, 1, 0] rfl)
