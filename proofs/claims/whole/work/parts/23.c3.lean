set_option maxHeartbeats 4000000 in
set_option maxRecDepth 100000 in
theorem c6_commonDivisor (l : Launch) (dC : Nat → ClassId) (dI : Nat → Nat → Nat) (cs : Nat → ClassId) (a0 : Int64) (a2 : Int64) {Q : Int64 → Prop} (hq : q6_commonDivisor a0 a2 Q) : Met l yX6_commonDivisor (.code yX6_commonDivisor cX6_commonDivisor 11 (some .long) :: gt) ({ frames := 0, cells := 0, slots := 0, locals := 0 } : Room) (va_Pc [.long a0, .long a2] (Pr (dC, dI) (KA cs) ([] : va_W))) (vp_Sl Q) 0 0 (fun _ => False) := by
  refine Met.ofW (cc := cX6_commonDivisor) (maxL := 11) (ret := (some .long)) (by decide) rfl ?_
  intro p e s m args below meth c s₁ B hml hv
  obtain ⟨rfl, hP, hK, hN⟩ := hv
  have hx := B.exec
  have hb := B.bytes
  have hr := B.returns
  have hts0 := atoms_spec (ws := (.code yX6_commonDivisor cX6_commonDivisor 11 (some .long) :: gt)) B.pre
  have hts : ∀ w ∈ gt, w.before _ s = true := fun w h => hts0 w (List.mem_cons_of_mem _ h)
  have hown : s.vm.findClass RX6 = some m.cls := findClass_of_methodNamed B.named
  have hlocks := B.notSynchronized
  have hl := lv_entry ([.long a0, .long a2]) (n := 11) (Nat.le_of_ble_eq_true rfl)
  rw [lg_entry_eq]
  generalize (lg_sl ([.long a0, .long a2]) ++ List.replicate (11 - (lg_sl ([.long a0, .long a2])).length) Slot.unset).toArray = ls at hl ⊢
  have hl : lv_has ls 11 [(0, .long a0), (2, .long a2)] := hl
  have B9 : ∀ (k9 : Nat) (x4 : Int64) (x6 : Int64) (x8 : Int32) (ls : Array Slot), q6_commonDivisor_9 Q k9 x4 x6 x8 → lv_has ls 11 [(4, .long x4), (6, .long x6), (8, .int x8)] → W p l e ({ frames := 0, cells := 0, slots := 0, locals := 0 } : Room) s m ([.long a0, .long a2] : List Value).toArray below meth c s.heap [] 0 0 (MQ below (vp_Sl Q) ([.long a0, .long a2] : List Value).toArray s 0 0 (fun _ => False)) (F0 m 9 ls []) := by
    intro k9
    induction k9 with
    | zero => intro x4 x6 x8 ls hq; exact False.elim hq
    | succ k9 ih9 =>
      intro x4 x6 x8 ls hq hl
      unfold q6_commonDivisor_9 at hq
      refine lv_iload hx hb dX6_commonDivisor_9 (lv_at hl 2 rfl) ?_
      refine lv_bipush (v := (100 : Int32)) hx hb dX6_commonDivisor_11 (by decide) ?_
      refine lv_icmp_ge (tgt := 44) hx hb dX6_commonDivisor_13 (by decide) (fun c4 => ?_) (fun c4 => ?_)
      · have hq := hq.1 c4
        refine lv_lload hx hb dX6_commonDivisor_44 (lv_at hl 0 rfl) ?_
        exact W.lret (v := x4) hx hb hr (fun t ht hW => ⟨x4, rfl, hq, ht⟩) (fun q h => absurd h List.not_mem_nil) dX6_commonDivisor_46
      · have hq := hq.2 c4
        refine lv_lload hx hb dX6_commonDivisor_16 (lv_at hl 1 rfl) ?_
        refine lv_lconst (v := (0 : Int64)) hx hb dX6_commonDivisor_18 (by decide) ?_
        refine lc_eq (tgt := 44) hx hb dX6_commonDivisor_19 dX6_commonDivisor_20 (by decide) (fun c5 => ?_) (fun c5 => ?_)
        · have hq := hq.1 c5
          refine lv_lload hx hb dX6_commonDivisor_44 (lv_at hl 0 rfl) ?_
          exact W.lret (v := x4) hx hb hr (fun t ht hW => ⟨x4, rfl, hq, ht⟩) (fun q h => absurd h List.not_mem_nil) dX6_commonDivisor_46
        · have hq := hq.2 c5
          refine lv_lload hx hb dX6_commonDivisor_23 (lv_at hl 0 rfl) ?_
          refine lv_lload hx hb dX6_commonDivisor_25 (lv_at hl 1 rfl) ?_
          obtain ⟨z6, hq⟩ := hq
          refine lv_lrem hx hb dX6_commonDivisor_27 z6 ?_
          refine lv_lstore (lv' := [(9, .long (x4 - x4 / x6 * x6)), (4, .long x4), (6, .long x6), (8, .int x8)]) hx hb dX6_commonDivisor_28 hl (by decide) rfl (fun ls hl => ?_)
          refine lv_lload hx hb dX6_commonDivisor_30 (lv_at hl 2 rfl) ?_
          refine lv_lstore (lv' := [(4, .long x6), (9, .long (x4 - x4 / x6 * x6)), (6, .long x6), (8, .int x8)]) hx hb dX6_commonDivisor_32 hl (by decide) rfl (fun ls hl => ?_)
          refine lv_lload hx hb dX6_commonDivisor_34 (lv_at hl 1 rfl) ?_
          refine lv_lstore (lv' := [(6, .long (x4 - x4 / x6 * x6)), (4, .long x6), (9, .long (x4 - x4 / x6 * x6)), (8, .int x8)]) hx hb dX6_commonDivisor_36 hl (by decide) rfl (fun ls hl => ?_)
          refine lv_iinc (v := (x8 + (1 : Int32))) (lv' := [(8, .int (x8 + (1 : Int32))), (6, .long (x4 - x4 / x6 * x6)), (4, .long x6), (9, .long (x4 - x4 / x6 * x6))]) hx hb dX6_commonDivisor_38 hl (k := 3) rfl (by rfl) (by decide) rfl (fun ls hl => ?_)
          refine lv_goto (tgt := 9) hx hb dX6_commonDivisor_41 (by decide) ?_
          exact ih9 x6 (x4 - x4 / x6 * x6) (x8 + (1 : Int32)) _ hq (lv_sub hl [2, 1, 0] rfl)
  unfold q6_commonDivisor at hq
  refine lv_lload_n hx hb dX6_commonDivisor_0 rfl (lv_at hl 0 rfl) ?_
  refine lv_lstore (lv' := [(4, .long a0), (0, .long a0), (2, .long a2)]) hx hb dX6_commonDivisor_1 hl (by decide) rfl (fun ls hl => ?_)
  refine lv_lload_n hx hb dX6_commonDivisor_3 rfl (lv_at hl 2 rfl) ?_
  refine lv_lstore (lv' := [(6, .long a2), (4, .long a0), (0, .long a0), (2, .long a2)]) hx hb dX6_commonDivisor_4 hl (by decide) rfl (fun ls hl => ?_)
  refine lv_iconst (v := (0 : Int32)) hx hb dX6_commonDivisor_6 (by decide) ?_
  refine lv_istore (lv' := [(8, .int (0 : Int32)), (6, .long a2), (4, .long a0), (0, .long a0), (2, .long a2)]) hx hb dX6_commonDivisor_7 hl (by decide) rfl (fun ls hl => ?_)
  obtain ⟨kf, hq⟩ := hq
  exact B9 kf a0 a2 (0 : Int32) _ hq (lv_sub hl [2, 1, 0] rfl)
set_option maxHeartbeats 4000000 in
set_option maxRecDepth 100000 in
theorem c6_quotient (l : Launch) (dC : Nat → ClassId) (dI : Nat → Nat → Nat) (cs : Nat → ClassId) (a0 : Int64) (a2 : Int64) {Q : Int64 → Prop} (hq : q6_quotient a0 a2 Q) : Met l yX6_quotient (.code yX6_quotient cX6_quotient 4 (some .long) :: gt) ({ frames := 0, cells := 0, slots := 0, locals := 0 } : Room) (va_Pc [.long a0, .long a2] (Pr (dC, dI) (KA cs) ([] : va_W))) (vp_Sl Q) 0 0 (fun _ => False) := by
  refine Met.ofW (cc := cX6_quotient) (maxL := 4) (ret := (some .long)) (by decide) rfl ?_
  intro p e s m args below meth c s₁ B hml hv
  obtain ⟨rfl, hP, hK, hN⟩ := hv
  have hx := B.exec
  have hb := B.bytes
  have hr := B.returns
  have hts0 := atoms_spec (ws := (.code yX6_quotient cX6_quotient 4 (some .long) :: gt)) B.pre
  have hts : ∀ w ∈ gt, w.before _ s = true := fun w h => hts0 w (List.mem_cons_of_mem _ h)
  have hown : s.vm.findClass RX6 = some m.cls := findClass_of_methodNamed B.named
  have hlocks := B.notSynchronized
  have hl := lv_entry ([.long a0, .long a2]) (n := 4) (Nat.le_of_ble_eq_true rfl)
  rw [lg_entry_eq]
  generalize (lg_sl ([.long a0, .long a2]) ++ List.replicate (4 - (lg_sl ([.long a0, .long a2])).length) Slot.unset).toArray = ls at hl ⊢
  have hl : lv_has ls 4 [(0, .long a0), (2, .long a2)] := hl
  unfold q6_quotient at hq
  refine lv_lload_n hx hb dX6_quotient_0 rfl (lv_at hl 1 rfl) ?_
  refine lv_lconst (v := (0 : Int64)) hx hb dX6_quotient_1 (by decide) ?_
  refine lc_ne (tgt := 10) hx hb dX6_quotient_2 dX6_quotient_3 (by decide) (fun c3 => ?_) (fun c3 => ?_)
  · have hq := hq.1 c3
    refine lv_lload_n hx hb dX6_quotient_10 rfl (lv_at hl 0 rfl) ?_
    refine lv_lload_n hx hb dX6_quotient_11 rfl (lv_at hl 1 rfl) ?_
    obtain ⟨z4, hq⟩ := hq
    refine lv_ldiv hx hb dX6_quotient_12 z4 ?_
    exact W.lret (v := (a0 / a2)) hx hb hr (fun t ht hW => ⟨(a0 / a2), rfl, hq, ht⟩) (fun q h => absurd h List.not_mem_nil) dX6_quotient_13
  · have hq := hq.2 c3
    refine lv_lconst (v := (0 : Int64)) hx hb dX6_quotient_6 (by decide) ?_
    refine lv_goto (tgt := 13) hx hb dX6_quotient_7 (by decide) ?_
    exact W.lret (v := (0 : Int64)) hx hb hr (fun t ht hW => ⟨(0 : Int64), rfl, hq, ht⟩) (fun q h => absurd h List.not_mem_nil) dX6_quotient_13
set_option maxHeartbeats 4000000 in
set_option maxRecDepth 100000 in
theorem c6_commonMultiple (l : Launch) (dC : Nat → ClassId) (dI : Nat → Nat → Nat) (cs : Nat → ClassId) (a0 : Int32) (a1 : Int32) {Q : Int32 → Prop} (hq : q6_commonMultiple a0 a1 Q) : Met l yX6_commonMultiple (.code yX6_commonMultiple cX6_commonMultiple 2 (some .int) :: gt) ({ frames := 1, cells := 0, slots := 0, locals := 30 } : Room) (va_Pc [.int a0, .int a1] (Pr (dC, dI) (KA cs) ([] : va_W))) (vp_Si Q) 0 0 (fun _ => False) := by
  refine Met.ofW (cc := cX6_commonMultiple) (maxL := 2) (ret := (some .int)) (by decide) rfl ?_
  intro p e s m args below meth c s₁ B hml hv
  obtain ⟨rfl, hP, hK, hN⟩ := hv
  have hx := B.exec
  have hb := B.bytes
  have hr := B.returns
  have hts0 := atoms_spec (ws := (.code yX6_commonMultiple cX6_commonMultiple 2 (some .int) :: gt)) B.pre
  have hts : ∀ w ∈ gt, w.before _ s = true := fun w h => hts0 w (List.mem_cons_of_mem _ h)
  have hown : s.vm.findClass RX6 = some m.cls := findClass_of_methodNamed B.named
  have hlocks := B.notSynchronized
  have hl := lv_entry ([.int a0, .int a1]) (n := 2) (Nat.le_of_ble_eq_true rfl)
  rw [lg_entry_eq]
  generalize (lg_sl ([.int a0, .int a1]) ++ List.replicate (2 - (lg_sl ([.int a0, .int a1])).length) Slot.unset).toArray = ls at hl ⊢
  have hl : lv_has ls 2 [(0, .int a0), (1, .int a1)] := hl
  unfold q6_commonMultiple at hq
  refine lv_iload_n hx hb dX6_commonMultiple_0 rfl (lv_at hl 0 rfl) ?_
  refine lv_i2l (v := a0.toInt64) hx hb dX6_commonMultiple_1 rfl ?_
  refine lv_iload_n hx hb dX6_commonMultiple_2 rfl (lv_at hl 1 rfl) ?_
  refine lv_i2l (v := a1.toInt64) hx hb dX6_commonMultiple_3 rfl ?_
  refine lv_lmul hx hb dX6_commonMultiple_4 ?_
  refine lv_iload_n hx hb dX6_commonMultiple_5 rfl (lv_at hl 0 rfl) ?_
  refine lv_i2l (v := a0.toInt64) hx hb dX6_commonMultiple_6 rfl ?_
  refine lv_iload_n hx hb dX6_commonMultiple_7 rfl (lv_at hl 1 rfl) ?_
  refine lv_i2l (v := a1.toInt64) hx hb dX6_commonMultiple_8 rfl ?_
  refine rol (runS ⟨hx, hb, hml, hown, hts⟩ ws_X6_commonDivisor ml_X6_109 (c6_commonDivisor l dC dI cs   a0.toInt64 a1.toInt64 hq) ⟨⟨rfl, rfl⟩, by decide, by decide⟩ (preR va_P_nil hK hN) hN rfl hl.1 rfl (Nat.le_of_ble_eq_true rfl) dX6_commonMultiple_9 ⟨(Nat.le_of_ble_eq_true rfl), (Nat.le_of_ble_eq_true rfl)⟩) (fun r3 hq => ?_)
  refine rol (runS ⟨hx, hb, hml, hown, hts⟩ ws_X6_quotient ml_X6_113 (c6_quotient l dC dI cs   (a0.toInt64 * a1.toInt64) r3 hq) ⟨⟨rfl, rfl⟩, by decide, by decide⟩ (preR va_P_nil hK hN) hN rfl hl.1 rfl (Nat.le_of_ble_eq_true rfl) dX6_commonMultiple_12 ⟨(Nat.le_of_ble_eq_true rfl), (Nat.le_of_ble_eq_true rfl)⟩) (fun r4 hq => ?_)
  refine lv_l2i (v := r4.toInt32) hx hb dX6_commonMultiple_15 rfl ?_
  exact W.iret (v := r4.toInt32) hx hb hr (fun t ht hW => ⟨r4.toInt32, rfl, hq, ht⟩) (fun q h => absurd h List.not_mem_nil) dX6_commonMultiple_16
set_option maxHeartbeats 4000000 in
set_option maxRecDepth 100000 in
theorem c6_entry (l : Launch) (dC : Nat → ClassId) (dI : Nat → Nat → Nat) (cs : Nat → ClassId) (ae : Nat) (en : Nat) (e_row : Nat → Int64) (a1 : Int32) {Q : Int64 → Prop} (hq : q6_entry en e_row a1 Q) : Met l yX6_entry (.code yX6_entry cX6_entry 2 (some .long) :: gt) ({ frames := 0, cells := 0, slots := 0, locals := 0 } : Room) (va_Pc [.ref ae, .int a1] (Pr (dC, dI) (KA cs) (wE cs ae en e_row))) (vp_Sl Q) 0 0 (fun _ => False) := by
  refine Met.ofW (cc := cX6_entry) (maxL := 2) (ret := (some .long)) (by decide) rfl ?_
  intro p e s m args below meth c s₁ B hml hv
  obtain ⟨rfl, hP, hK, hN⟩ := hv
  have hx := B.exec
  have hb := B.bytes
  have hr := B.returns
  have hts0 := atoms_spec (ws := (.code yX6_entry cX6_entry 2 (some .long) :: gt)) B.pre
  have hts : ∀ w ∈ gt, w.before _ s = true := fun w h => hts0 w (List.mem_cons_of_mem _ h)
  have hown : s.vm.findClass RX6 = some m.cls := findClass_of_methodNamed B.named
  have hlocks := B.notSynchronized
  have hl := lv_entry ([.ref ae, .int a1]) (n := 2) (Nat.le_of_ble_eq_true rfl)
  rw [lg_entry_eq]
  generalize (lg_sl ([.ref ae, .int a1]) ++ List.replicate (2 - (lg_sl ([.ref ae, .int a1])).length) Slot.unset).toArray = ls at hl ⊢
  have hl : lv_has ls 2 [(0, .ref ae), (1, .int a1)] := hl
  unfold q6_entry at hq
  refine lv_iload_n hx hb dX6_entry_0 rfl (lv_at hl 1 rfl) ?_
  refine lv_if_lt (tgt := 16) hx hb dX6_entry_1 (by decide) (fun c4 => ?_) (fun c4 => ?_)
  · have hq := hq.1 c4
    refine lv_lconst (v := (0 : Int64)) hx hb dX6_entry_16 (by decide) ?_
    exact W.lret (v := (0 : Int64)) hx hb hr (fun t ht hW => ⟨(0 : Int64), rfl, hq, ht⟩) (fun q h => absurd h List.not_mem_nil) dX6_entry_17
  · have hq := hq.2 c4
    refine lv_iload_n hx hb dX6_entry_4 rfl (lv_at hl 1 rfl) ?_
    refine lv_aload_n hx hb dX6_entry_5 rfl (lv_at hl 0 rfl) ?_
    refine va_alen (v := (Int32.ofNat en)) hx hb hK hP 0 1 rfl rfl rfl dX6_entry_6 ?_
    refine lv_icmp_ge (tgt := 16) hx hb dX6_entry_7 (by decide) (fun c5 => ?_) (fun c5 => ?_)
    · have hq := hq.1 c5
      refine lv_lconst (v := (0 : Int64)) hx hb dX6_entry_16 (by decide) ?_
      exact W.lret (v := (0 : Int64)) hx hb hr (fun t ht hW => ⟨(0 : Int64), rfl, hq, ht⟩) (fun q h => absurd h List.not_mem_nil) dX6_entry_17
    · have hq := hq.2 c5
      refine lv_aload_n hx hb dX6_entry_10 rfl (lv_at hl 0 rfl) ?_
      refine lv_iload_n hx hb dX6_entry_11 rfl (lv_at hl 1 rfl) ?_
      obtain ⟨i6, hq⟩ := hq
      refine va_lald hx hb hK hP 0 1 rfl rfl i6 dX6_entry_12 ?_
      refine lv_goto (tgt := 17) hx hb dX6_entry_13 (by decide) ?_
      exact W.lret (v := (e_row a1.toNatClampNeg)) hx hb hr (fun t ht hW => ⟨(e_row a1.toNatClampNeg), rfl, hq, ht⟩) (fun q h => absurd h List.not_mem_nil) dX6_entry_17
set_option maxHeartbeats 4000000 in
set_option maxRecDepth 100000 in
theorem c6_isPlace (l : Launch) (dC : Nat → ClassId) (dI : Nat → Nat → Nat) (cs : Nat → ClassId) (a0 : Int32) {Q : Int32 → Prop} (hq : q6_isPlace a0 Q) : Met l yX6_isPlace (.code yX6_isPlace cX6_isPlace 1 (some .boolean) :: gt) ({ frames := 0, cells := 0, slots := 0, locals := 0 } : Room) (va_Pc [.int a0] (Pr (dC, dI) (KA cs) ([] : va_W))) (vp_Si Q) 0 0 (fun _ => False) := by
  refine Met.ofW (cc := cX6_isPlace) (maxL := 1) (ret := (some .boolean)) (by decide) rfl ?_
  intro p e s m args below meth c s₁ B hml hv
  obtain ⟨rfl, hP, hK, hN⟩ := hv
  have hx := B.exec
  have hb := B.bytes
  have hr := B.returns
  have hts0 := atoms_spec (ws := (.code yX6_isPlace cX6_isPlace 1 (some .boolean) :: gt)) B.pre
  have hts : ∀ w ∈ gt, w.before _ s = true := fun w h => hts0 w (List.mem_cons_of_mem _ h)
  have hown : s.vm.findClass RX6 = some m.cls := findClass_of_methodNamed B.named
  have hlocks := B.notSynchronized
  have hl := lv_entry ([.int a0]) (n := 1) (Nat.le_of_ble_eq_true rfl)
  rw [lg_entry_eq]
  generalize (lg_sl ([.int a0]) ++ List.replicate (1 - (lg_sl ([.int a0])).length) Slot.unset).toArray = ls at hl ⊢
  have hl : lv_has ls 1 [(0, .int a0)] := hl
  unfold q6_isPlace at hq
  refine lv_iload_n hx hb dX6_isPlace_0 rfl (lv_at hl 0 rfl) ?_
  refine lv_if_lt (tgt := 13) hx hb dX6_isPlace_1 (by decide) (fun c3 => ?_) (fun c3 => ?_)
  · have hq := hq.1 c3
    refine lv_iconst (v := (0 : Int32)) hx hb dX6_isPlace_13 (by decide) ?_
    exact W.zret (ty := .boolean) (v := (0 : Int32)) hx hb hr rfl (fun t ht hW => ⟨(0 : Int32), rfl, hq, ht⟩) (fun q h => absurd h List.not_mem_nil) dX6_isPlace_14
  · have hq := hq.2 c3
    refine lv_iload_n hx hb dX6_isPlace_4 rfl (lv_at hl 0 rfl) ?_
    refine lv_iconst (v := (4 : Int32)) hx hb dX6_isPlace_5 (by decide) ?_
    refine lv_icmp_ge (tgt := 13) hx hb dX6_isPlace_6 (by decide) (fun c4 => ?_) (fun c4 => ?_)
    · have hq := hq.1 c4
      refine lv_iconst (v := (0 : Int32)) hx hb dX6_isPlace_13 (by decide) ?_
      exact W.zret (ty := .boolean) (v := (0 : Int32)) hx hb hr rfl (fun t ht hW => ⟨(0 : Int32), rfl, hq, ht⟩) (fun q h => absurd h List.not_mem_nil) dX6_isPlace_14
    · have hq := hq.2 c4
      refine lv_iconst (v := (1 : Int32)) hx hb dX6_isPlace_9 (by decide) ?_
      refine lv_goto (tgt := 14) hx hb dX6_isPlace_10 (by decide) ?_
      exact W.zret (ty := .boolean) (v := (1 : Int32)) hx hb hr rfl (fun t ht hW => ⟨(1 : Int32), rfl, hq, ht⟩) (fun q h => absurd h List.not_mem_nil) dX6_isPlace_14
set_option maxHeartbeats 4000000 in
set_option maxRecDepth 100000 in
theorem c6_isKind (l : Launch) (dC : Nat → ClassId) (dI : Nat → Nat → Nat) (cs : Nat → ClassId) (a0 : Int32) {Q : Int32 → Prop} (hq : q6_isKind a0 Q) : Met l yX6_isKind (.code yX6_isKind cX6_isKind 1 (some .boolean) :: gt) ({ frames := 0, cells := 0, slots := 0, locals := 0 } : Room) (va_Pc [.int a0] (Pr (dC, dI) (KA cs) ([] : va_W))) (vp_Si Q) 0 0 (fun _ => False) := by
  refine Met.ofW (cc := cX6_isKind) (maxL := 1) (ret := (some .boolean)) (by decide) rfl ?_
  intro p e s m args below meth c s₁ B hml hv
  obtain ⟨rfl, hP, hK, hN⟩ := hv
  have hx := B.exec
  have hb := B.bytes
  have hr := B.returns
  have hts0 := atoms_spec (ws := (.code yX6_isKind cX6_isKind 1 (some .boolean) :: gt)) B.pre
  have hts : ∀ w ∈ gt, w.before _ s = true := fun w h => hts0 w (List.mem_cons_of_mem _ h)
  have hown : s.vm.findClass RX6 = some m.cls := findClass_of_methodNamed B.named
  have hlocks := B.notSynchronized
  have hl := lv_entry ([.int a0]) (n := 1) (Nat.le_of_ble_eq_true rfl)
  rw [lg_entry_eq]
  generalize (lg_sl ([.int a0]) ++ List.replicate (1 - (lg_sl ([.int a0])).length) Slot.unset).toArray = ls at hl ⊢
  have hl : lv_has ls 1 [(0, .int a0)] := hl
  unfold q6_isKind at hq
  refine lv_iload_n hx hb dX6_isKind_0 rfl (lv_at hl 0 rfl) ?_
  refine lv_if_lt (tgt := 14) hx hb dX6_isKind_1 (by decide) (fun c3 => ?_) (fun c3 => ?_)
  · have hq := hq.1 c3
    refine lv_iconst (v := (0 : Int32)) hx hb dX6_isKind_14 (by decide) ?_
    exact W.zret (ty := .boolean) (v := (0 : Int32)) hx hb hr rfl (fun t ht hW => ⟨(0 : Int32), rfl, hq, ht⟩) (fun q h => absurd h List.not_mem_nil) dX6_isKind_15
  · have hq := hq.2 c3
    refine lv_iload_n hx hb dX6_isKind_4 rfl (lv_at hl 0 rfl) ?_
    refine lv_bipush (v := (8 : Int32)) hx hb dX6_isKind_5 (by decide) ?_
    refine lv_icmp_ge (tgt := 14) hx hb dX6_isKind_7 (by decide) (fun c4 => ?_) (fun c4 => ?_)
    · have hq := hq.1 c4
      refine lv_iconst (v := (0 : Int32)) hx hb dX6_isKind_14 (by decide) ?_
      exact W.zret (ty := .boolean) (v := (0 : Int32)) hx hb hr rfl (fun t ht hW => ⟨(0 : Int32), rfl, hq, ht⟩) (fun q h => absurd h List.not_mem_nil) dX6_isKind_15
    · have hq := hq.2 c4
      refine lv_iconst (v := (1 : Int32)) hx hb dX6_isKind_10 (by decide) ?_
      refine lv_goto (tgt := 15) hx hb dX6_isKind_11 (by decide) ?_
      exact W.zret (ty := .boolean) (v := (1 : Int32)) hx hb hr rfl (fun t ht hW => ⟨(1 : Int32), rfl, hq, ht⟩) (fun q h => absurd h List.not_mem_nil) dX6_isKind_15
set_option maxHeartbeats 4000000 in
set_option maxRecDepth 100000 in
theorem c6_isRowKind (l : Launch) (dC : Nat → ClassId) (dI : Nat → Nat → Nat) (cs : Nat → ClassId) (a0 : Int32) {Q : Int32 → Prop} (hq : q6_isRowKind a0 Q) : Met l yX6_isRowKind (.code yX6_isRowKind cX6_isRowKind 1 (some .boolean) :: gt) ({ frames := 0, cells := 0, slots := 0, locals := 0 } : Room) (va_Pc [.int a0] (Pr (dC, dI) (KA cs) ([] : va_W))) (vp_Si Q) 0 0 (fun _ => False) := by
  refine Met.ofW (cc := cX6_isRowKind) (maxL := 1) (ret := (some .boolean)) (by decide) rfl ?_
  intro p e s m args below meth c s₁ B hml hv
  obtain ⟨rfl, hP, hK, hN⟩ := hv
  have hx := B.exec
  have hb := B.bytes
  have hr := B.returns
  have hts0 := atoms_spec (ws := (.code yX6_isRowKind cX6_isRowKind 1 (some .boolean) :: gt)) B.pre
  have hts : ∀ w ∈ gt, w.before _ s = true := fun w h => hts0 w (List.mem_cons_of_mem _ h)
  have hown : s.vm.findClass RX6 = some m.cls := findClass_of_methodNamed B.named
  have hlocks := B.notSynchronized
  have hl := lv_entry ([.int a0]) (n := 1) (Nat.le_of_ble_eq_true rfl)
  rw [lg_entry_eq]
  generalize (lg_sl ([.int a0]) ++ List.replicate (1 - (lg_sl ([.int a0])).length) Slot.unset).toArray = ls at hl ⊢
  have hl : lv_has ls 1 [(0, .int a0)] := hl
  unfold q6_isRowKind at hq
  refine lv_iload_n hx hb dX6_isRowKind_0 rfl (lv_at hl 0 rfl) ?_
  refine lv_iconst (v := (-1 : Int32)) hx hb dX6_isRowKind_1 (by decide) ?_
  refine lv_icmp_eq (tgt := 15) hx hb dX6_isRowKind_2 (by decide) (fun c4 => ?_) (fun c4 => ?_)
  · have hq := hq.1 c4
    refine lv_iconst (v := (1 : Int32)) hx hb dX6_isRowKind_15 (by decide) ?_
    refine lv_goto (tgt := 20) hx hb dX6_isRowKind_16 (by decide) ?_
    exact W.zret (ty := .boolean) (v := (1 : Int32)) hx hb hr rfl (fun t ht hW => ⟨(1 : Int32), rfl, hq, ht⟩) (fun q h => absurd h List.not_mem_nil) dX6_isRowKind_20
  · have hq := hq.2 c4
    refine lv_iload_n hx hb dX6_isRowKind_5 rfl (lv_at hl 0 rfl) ?_
    refine lv_iconst (v := (1 : Int32)) hx hb dX6_isRowKind_6 (by decide) ?_
    refine lv_icmp_eq (tgt := 15) hx hb dX6_isRowKind_7 (by decide) (fun c5 => ?_) (fun c5 => ?_)
    · have hq := hq.1 c5
      refine lv_iconst (v := (1 : Int32)) hx hb dX6_isRowKind_15 (by decide) ?_
      refine lv_goto (tgt := 20) hx hb dX6_isRowKind_16 (by decide) ?_
      exact W.zret (ty := .boolean) (v := (1 : Int32)) hx hb hr rfl (fun t ht hW => ⟨(1 : Int32), rfl, hq, ht⟩) (fun q h => absurd h List.not_mem_nil) dX6_isRowKind_20
    · have hq := hq.2 c5
      refine lv_iload_n hx hb dX6_isRowKind_10 rfl (lv_at hl 0 rfl) ?_
      refine lv_iconst (v := (2 : Int32)) hx hb dX6_isRowKind_11 (by decide) ?_
      refine lv_icmp_ne (tgt := 19) hx hb dX6_isRowKind_12 (by decide) (fun c6 => ?_) (fun c6 => ?_)
      · have hq := hq.1 c6
        refine lv_iconst (v := (0 : Int32)) hx hb dX6_isRowKind_19 (by decide) ?_
        exact W.zret (ty := .boolean) (v := (0 : Int32)) hx hb hr rfl (fun t ht hW => ⟨(0 : Int32), rfl, hq, ht⟩) (fun q h => absurd h List.not_mem_nil) dX6_isRowKind_20
      · have hq := hq.2 c6
        refine lv_iconst (v := (1 : Int32)) hx hb dX6_isRowKind_15 (by decide) ?_
        refine lv_goto (tgt := 20) hx hb dX6_isRowKind_16 (by decide) ?_
        exact W.zret (ty := .boolean) (v := (1 : Int32)) hx hb hr rfl (fun t ht hW => ⟨(1 : Int32), rfl, hq, ht⟩) (fun q h => absurd h List.not_mem_nil) dX6_isRowKind_20
set_option maxHeartbeats 4000000 in
set_option maxRecDepth 100000 in
theorem c6_isWay (l : Launch) (dC : Nat → ClassId) (dI : Nat → Nat → Nat) (cs : Nat → ClassId) (a0 : Int32) {Q : Int32 → Prop} (hq : q6_isWay a0 Q) : Met l yX6_isWay (.code yX6_isWay cX6_isWay 1 (some .boolean) :: gt) ({ frames := 0, cells := 0, slots := 0, locals := 0 } : Room) (va_Pc [.int a0] (Pr (dC, dI) (KA cs) ([] : va_W))) (vp_Si Q) 0 0 (fun _ => False) := by
  refine Met.ofW (cc := cX6_isWay) (maxL := 1) (ret := (some .boolean)) (by decide) rfl ?_
  intro p e s m args below meth c s₁ B hml hv
  obtain ⟨rfl, hP, hK, hN⟩ := hv
  have hx := B.exec
  have hb := B.bytes
  have hr := B.returns
  have hts0 := atoms_spec (ws := (.code yX6_isWay cX6_isWay 1 (some .boolean) :: gt)) B.pre
  have hts : ∀ w ∈ gt, w.before _ s = true := fun w h => hts0 w (List.mem_cons_of_mem _ h)
  have hown : s.vm.findClass RX6 = some m.cls := findClass_of_methodNamed B.named
  have hlocks := B.notSynchronized
  have hl := lv_entry ([.int a0]) (n := 1) (Nat.le_of_ble_eq_true rfl)
  rw [lg_entry_eq]
  generalize (lg_sl ([.int a0]) ++ List.replicate (1 - (lg_sl ([.int a0])).length) Slot.unset).toArray = ls at hl ⊢
  have hl : lv_has ls 1 [(0, .int a0)] := hl
  unfold q6_isWay at hq
  refine lv_iload_n hx hb dX6_isWay_0 rfl (lv_at hl 0 rfl) ?_
  refine lv_if_eq (tgt := 9) hx hb dX6_isWay_1 (by decide) (fun c3 => ?_) (fun c3 => ?_)
  · have hq := hq.1 c3
    refine lv_iconst (v := (1 : Int32)) hx hb dX6_isWay_9 (by decide) ?_
    refine lv_goto (tgt := 14) hx hb dX6_isWay_10 (by decide) ?_
    exact W.zret (ty := .boolean) (v := (1 : Int32)) hx hb hr rfl (fun t ht hW => ⟨(1 : Int32), rfl, hq, ht⟩) (fun q h => absurd h List.not_mem_nil) dX6_isWay_14
  · have hq := hq.2 c3
    refine lv_iload_n hx hb dX6_isWay_4 rfl (lv_at hl 0 rfl) ?_
    refine lv_iconst (v := (1 : Int32)) hx hb dX6_isWay_5 (by decide) ?_
    refine lv_icmp_ne (tgt := 13) hx hb dX6_isWay_6 (by decide) (fun c4 => ?_) (fun c4 => ?_)
    · have hq := hq.1 c4
      refine lv_iconst (v := (0 : Int32)) hx hb dX6_isWay_13 (by decide) ?_
      exact W.zret (ty := .boolean) (v := (0 : Int32)) hx hb hr rfl (fun t ht hW => ⟨(0 : Int32), rfl, hq, ht⟩) (fun q h => absurd h List.not_mem_nil) dX6_isWay_14
    · have hq := hq.2 c4
      refine lv_iconst (v := (1 : Int32)) hx hb dX6_isWay_9 (by decide) ?_
      refine lv_goto (tgt := 14) hx hb dX6_isWay_10 (by decide) ?_
      exact W.zret (ty := .boolean) (v := (1 : Int32)) hx hb hr rfl (fun t ht hW => ⟨(1 : Int32), rfl, hq, ht⟩) (fun q h => absurd h List.not_mem_nil) dX6_isWay_14
set_option maxHeartbeats 4000000 in
set_option maxRecDepth 100000 in
theorem c6_bitCount_0f7a4 (l : Launch) (dC : Nat → ClassId) (dI : Nat → Nat → Nat) (cs : Nat → ClassId) (a0 : Int32) {Q : Int32 → Prop} (hq : q6_bitCount_0f7a4 a0 Q) : Met l yJ6_bitCount_0f7a4 (.code yJ6_bitCount_0f7a4 cJ6_bitCount_0f7a4 1 (some .int) :: gt) ({ frames := 0, cells := 0, slots := 0, locals := 0 } : Room) (va_Pc [.int a0] (Pr (dC, dI) (KA cs) ([] : va_W))) (vp_Si Q) 0 0 (fun _ => False) := by
  refine Met.ofW (cc := cJ6_bitCount_0f7a4) (maxL := 1) (ret := (some .int)) (by decide) rfl ?_
  intro p e s m args below meth c s₁ B hml hv
  obtain ⟨rfl, hP, hK, hN⟩ := hv
  have hx := B.exec
  have hb := B.bytes
  have hr := B.returns
  have hts0 := atoms_spec (ws := (.code yJ6_bitCount_0f7a4 cJ6_bitCount_0f7a4 1 (some .int) :: gt)) B.pre
  have hts : ∀ w ∈ gt, w.before _ s = true := fun w h => hts0 w (List.mem_cons_of_mem _ h)
  have hown : s.vm.findClass RJ6 = some m.cls := findClass_of_methodNamed B.named
  have hlocks := B.notSynchronized
  have hl := lv_entry ([.int a0]) (n := 1) (Nat.le_of_ble_eq_true rfl)
  rw [lg_entry_eq]
  generalize (lg_sl ([.int a0]) ++ List.replicate (1 - (lg_sl ([.int a0])).length) Slot.unset).toArray = ls at hl ⊢
  have hl : lv_has ls 1 [(0, .int a0)] := hl
  unfold q6_bitCount_0f7a4 at hq
  refine lv_iload_n hx hb dJ6_bitCount_0f7a4_0 rfl (lv_at hl 0 rfl) ?_
  refine lv_iload_n hx hb dJ6_bitCount_0f7a4_1 rfl (lv_at hl 0 rfl) ?_
  refine lv_iconst (v := (1 : Int32)) hx hb dJ6_bitCount_0f7a4_2 (by decide) ?_
  refine lv_iushr (v := (a0.toUInt32 >>> ((1 : Int32).toUInt32 &&& Int32.toUInt32 31)).toInt32) hx hb dJ6_bitCount_0f7a4_3 rfl ?_
  refine lv_ldcw (v := (1431655765 : Int32)) hx hb hown (hts _ ki_J6_265) dJ6_bitCount_0f7a4_4 ?_
  refine lv_iand hx hb dJ6_bitCount_0f7a4_7 ?_
  refine lv_isub hx hb dJ6_bitCount_0f7a4_8 ?_
  refine lv_istore_n (lv' := [(0, .int (a0 - ((a0.toUInt32 >>> ((1 : Int32).toUInt32 &&& Int32.toUInt32 31)).toInt32 &&& (1431655765 : Int32))))]) hx hb dJ6_bitCount_0f7a4_9 rfl hl (by decide) rfl (fun ls hl => ?_)
  refine lv_iload_n hx hb dJ6_bitCount_0f7a4_10 rfl (lv_at hl 0 rfl) ?_
  refine lv_ldcw (v := (858993459 : Int32)) hx hb hown (hts _ ki_J6_266) dJ6_bitCount_0f7a4_11 ?_
  refine lv_iand hx hb dJ6_bitCount_0f7a4_14 ?_
  refine lv_iload_n hx hb dJ6_bitCount_0f7a4_15 rfl (lv_at hl 0 rfl) ?_
  refine lv_iconst (v := (2 : Int32)) hx hb dJ6_bitCount_0f7a4_16 (by decide) ?_
  refine lv_iushr (v := ((a0 - ((a0.toUInt32 >>> ((1 : Int32).toUInt32 &&& Int32.toUInt32 31)).toInt32 &&& (1431655765 : Int32))).toUInt32 >>> ((2 : Int32).toUInt32 &&& Int32.toUInt32 31)).toInt32) hx hb dJ6_bitCount_0f7a4_17 rfl ?_
  refine lv_ldcw (v := (858993459 : Int32)) hx hb hown (hts _ ki_J6_266) dJ6_bitCount_0f7a4_18 ?_
  refine lv_iand hx hb dJ6_bitCount_0f7a4_21 ?_
  refine lv_iadd hx hb dJ6_bitCount_0f7a4_22 ?_
  refine lv_istore_n (lv' := [(0, .int (((a0 - ((a0.toUInt32 >>> ((1 : Int32).toUInt32 &&& Int32.toUInt32 31)).toInt32 &&& (1431655765 : Int32))) &&& (858993459 : Int32)) + (((a0 - ((a0.toUInt32 >>> ((1 : Int32).toUInt32 &&& Int32.toUInt32 31)).toInt32 &&& (1431655765 : Int32))).toUInt32 >>> ((2 : Int32).toUInt32 &&& Int32.toUInt32 31)).toInt32 &&& (858993459 : Int32))))]) hx hb dJ6_bitCount_0f7a4_23 rfl hl (by decide) rfl (fun ls hl => ?_)
  refine lv_iload_n hx hb dJ6_bitCount_0f7a4_24 rfl (lv_at hl 0 rfl) ?_
  refine lv_iload_n hx hb dJ6_bitCount_0f7a4_25 rfl (lv_at hl 0 rfl) ?_
  refine lv_iconst (v := (4 : Int32)) hx hb dJ6_bitCount_0f7a4_26 (by decide) ?_
  refine lv_iushr (v := ((((a0 - ((a0.toUInt32 >>> ((1 : Int32).toUInt32 &&& Int32.toUInt32 31)).toInt32 &&& (1431655765 : Int32))) &&& (858993459 : Int32)) + (((a0 - ((a0.toUInt32 >>> ((1 : Int32).toUInt32 &&& Int32.toUInt32 31)).toInt32 &&& (1431655765 : Int32))).toUInt32 >>> ((2 : Int32).toUInt32 &&& Int32.toUInt32 31)).toInt32 &&& (858993459 : Int32))).toUInt32 >>> ((4 : Int32).toUInt32 &&& Int32.toUInt32 31)).toInt32) hx hb dJ6_bitCount_0f7a4_27 rfl ?_
  refine lv_iadd hx hb dJ6_bitCount_0f7a4_28 ?_
  refine lv_ldcw (v := (252645135 : Int32)) hx hb hown (hts _ ki_J6_267) dJ6_bitCount_0f7a4_29 ?_
  refine lv_iand hx hb dJ6_bitCount_0f7a4_32 ?_
  refine lv_istore_n (lv' := [(0, .int (((((a0 - ((a0.toUInt32 >>> ((1 : Int32).toUInt32 &&& Int32.toUInt32 31)).toInt32 &&& (1431655765 : Int32))) &&& (858993459 : Int32)) + (((a0 - ((a0.toUInt32 >>> ((1 : Int32).toUInt32 &&& Int32.toUInt32 31)).toInt32 &&& (1431655765 : Int32))).toUInt32 >>> ((2 : Int32).toUInt32 &&& Int32.toUInt32 31)).toInt32 &&& (858993459 : Int32))) + ((((a0 - ((a0.toUInt32 >>> ((1 : Int32).toUInt32 &&& Int32.toUInt32 31)).toInt32 &&& (1431655765 : Int32))) &&& (858993459 : Int32)) + (((a0 - ((a0.toUInt32 >>> ((1 : Int32).toUInt32 &&& Int32.toUInt32 31)).toInt32 &&& (1431655765 : Int32))).toUInt32 >>> ((2 : Int32).toUInt32 &&& Int32.toUInt32 31)).toInt32 &&& (858993459 : Int32))).toUInt32 >>> ((4 : Int32).toUInt32 &&& Int32.toUInt32 31)).toInt32) &&& (252645135 : Int32)))]) hx hb dJ6_bitCount_0f7a4_33 rfl hl (by decide) rfl (fun ls hl => ?_)
  refine lv_iload_n hx hb dJ6_bitCount_0f7a4_34 rfl (lv_at hl 0 rfl) ?_
  refine lv_iload_n hx hb dJ6_bitCount_0f7a4_35 rfl (lv_at hl 0 rfl) ?_
  refine lv_bipush (v := (8 : Int32)) hx hb dJ6_bitCount_0f7a4_36 (by decide) ?_
  refine lv_iushr (v := ((((((a0 - ((a0.toUInt32 >>> ((1 : Int32).toUInt32 &&& Int32.toUInt32 31)).toInt32 &&& (1431655765 : Int32))) &&& (858993459 : Int32)) + (((a0 - ((a0.toUInt32 >>> ((1 : Int32).toUInt32 &&& Int32.toUInt32 31)).toInt32 &&& (1431655765 : Int32))).toUInt32 >>> ((2 : Int32).toUInt32 &&& Int32.toUInt32 31)).toInt32 &&& (858993459 : Int32))) + ((((a0 - ((a0.toUInt32 >>> ((1 : Int32).toUInt32 &&& Int32.toUInt32 31)).toInt32 &&& (1431655765 : Int32))) &&& (858993459 : Int32)) + (((a0 - ((a0.toUInt32 >>> ((1 : Int32).toUInt32 &&& Int32.toUInt32 31)).toInt32 &&& (1431655765 : Int32))).toUInt32 >>> ((2 : Int32).toUInt32 &&& Int32.toUInt32 31)).toInt32 &&& (858993459 : Int32))).toUInt32 >>> ((4 : Int32).toUInt32 &&& Int32.toUInt32 31)).toInt32) &&& (252645135 : Int32)).toUInt32 >>> ((8 : Int32).toUInt32 &&& Int32.toUInt32 31)).toInt32) hx hb dJ6_bitCount_0f7a4_38 rfl ?_
  refine lv_iadd hx hb dJ6_bitCount_0f7a4_39 ?_
  refine lv_istore_n (lv' := [(0, .int ((((((a0 - ((a0.toUInt32 >>> ((1 : Int32).toUInt32 &&& Int32.toUInt32 31)).toInt32 &&& (1431655765 : Int32))) &&& (858993459 : Int32)) + (((a0 - ((a0.toUInt32 >>> ((1 : Int32).toUInt32 &&& Int32.toUInt32 31)).toInt32 &&& (1431655765 : Int32))).toUInt32 >>> ((2 : Int32).toUInt32 &&& Int32.toUInt32 31)).toInt32 &&& (858993459 : Int32))) + ((((a0 - ((a0.toUInt32 >>> ((1 : Int32).toUInt32 &&& Int32.toUInt32 31)).toInt32 &&& (1431655765 : Int32))) &&& (858993459 : Int32)) + (((a0 - ((a0.toUInt32 >>> ((1 : Int32).toUInt32 &&& Int32.toUInt32 31)).toInt32 &&& (1431655765 : Int32))).toUInt32 >>> ((2 : Int32).toUInt32 &&& Int32.toUInt32 31)).toInt32 &&& (858993459 : Int32))).toUInt32 >>> ((4 : Int32).toUInt32 &&& Int32.toUInt32 31)).toInt32) &&& (252645135 : Int32)) + ((((((a0 - ((a0.toUInt32 >>> ((1 : Int32).toUInt32 &&& Int32.toUInt32 31)).toInt32 &&& (1431655765 : Int32))) &&& (858993459 : Int32)) + (((a0 - ((a0.toUInt32 >>> ((1 : Int32).toUInt32 &&& Int32.toUInt32 31)).toInt32 &&& (1431655765 : Int32))).toUInt32 >>> ((2 : Int32).toUInt32 &&& Int32.toUInt32 31)).toInt32 &&& (858993459 : Int32))) + ((((a0 - ((a0.toUInt32 >>> ((1 : Int32).toUInt32 &&& Int32.toUInt32 31)).toInt32 &&& (1431655765 : Int32))) &&& (858993459 : Int32)) + (((a0 - ((a0.toUInt32 >>> ((1 : Int32).toUInt32 &&& Int32.toUInt32 31)).toInt32 &&& (1431655765 : Int32))).toUInt32 >>> ((2 : Int32).toUInt32 &&& Int32.toUInt32 31)).toInt32 &&& (858993459 : Int32))).toUInt32 >>> ((4 : Int32).toUInt32 &&& Int32.toUInt32 31)).toInt32) &&& (252645135 : Int32)).toUInt32 >>> ((8 : Int32).toUInt32 &&& Int32.toUInt32 31)).toInt32))]) hx hb dJ6_bitCount_0f7a4_40 rfl hl (by decide) rfl (fun ls hl => ?_)
  refine lv_iload_n hx hb dJ6_bitCount_0f7a4_41 rfl (lv_at hl 0 rfl) ?_
  refine lv_iload_n hx hb dJ6_bitCount_0f7a4_42 rfl (lv_at hl 0 rfl) ?_
  refine lv_bipush (v := (16 : Int32)) hx hb dJ6_bitCount_0f7a4_43 (by decide) ?_
  refine lv_iushr (v := (((((((a0 - ((a0.toUInt32 >>> ((1 : Int32).toUInt32 &&& Int32.toUInt32 31)).toInt32 &&& (1431655765 : Int32))) &&& (858993459 : Int32)) + (((a0 - ((a0.toUInt32 >>> ((1 : Int32).toUInt32 &&& Int32.toUInt32 31)).toInt32 &&& (1431655765 : Int32))).toUInt32 >>> ((2 : Int32).toUInt32 &&& Int32.toUInt32 31)).toInt32 &&& (858993459 : Int32))) + ((((a0 - ((a0.toUInt32 >>> ((1 : Int32).toUInt32 &&& Int32.toUInt32 31)).toInt32 &&& (1431655765 : Int32))) &&& (858993459 : Int32)) + (((a0 - ((a0.toUInt32 >>> ((1 : Int32).toUInt32 &&& Int32.toUInt32 31)).toInt32 &&& (1431655765 : Int32))).toUInt32 >>> ((2 : Int32).toUInt32 &&& Int32.toUInt32 31)).toInt32 &&& (858993459 : Int32))).toUInt32 >>> ((4 : Int32).toUInt32 &&& Int32.toUInt32 31)).toInt32) &&& (252645135 : Int32)) + ((((((a0 - ((a0.toUInt32 >>> ((1 : Int32).toUInt32 &&& Int32.toUInt32 31)).toInt32 &&& (1431655765 : Int32))) &&& (858993459 : Int32)) + (((a0 - ((a0.toUInt32 >>> ((1 : Int32).toUInt32 &&& Int32.toUInt32 31)).toInt32 &&& (1431655765 : Int32))).toUInt32 >>> ((2 : Int32).toUInt32 &&& Int32.toUInt32 31)).toInt32 &&& (858993459 : Int32))) + ((((a0 - ((a0.toUInt32 >>> ((1 : Int32).toUInt32 &&& Int32.toUInt32 31)).toInt32 &&& (1431655765 : Int32))) &&& (858993459 : Int32)) + (((a0 - ((a0.toUInt32 >>> ((1 : Int32).toUInt32 &&& Int32.toUInt32 31)).toInt32 &&& (1431655765 : Int32))).toUInt32 >>> ((2 : Int32).toUInt32 &&& Int32.toUInt32 31)).toInt32 &&& (858993459 : Int32))).toUInt32 >>> ((4 : Int32).toUInt32 &&& Int32.toUInt32 31)).toInt32) &&& (252645135 : Int32)).toUInt32 >>> ((8 : Int32).toUInt32 &&& Int32.toUInt32 31)).toInt32).toUInt32 >>> ((16 : Int32).toUInt32 &&& Int32.toUInt32 31)).toInt32) hx hb dJ6_bitCount_0f7a4_45 rfl ?_
  refine lv_iadd hx hb dJ6_bitCount_0f7a4_46 ?_
  refine lv_istore_n (lv' := [(0, .int (((((((a0 - ((a0.toUInt32 >>> ((1 : Int32).toUInt32 &&& Int32.toUInt32 31)).toInt32 &&& (1431655765 : Int32))) &&& (858993459 : Int32)) + (((a0 - ((a0.toUInt32 >>> ((1 : Int32).toUInt32 &&& Int32.toUInt32 31)).toInt32 &&& (1431655765 : Int32))).toUInt32 >>> ((2 : Int32).toUInt32 &&& Int32.toUInt32 31)).toInt32 &&& (858993459 : Int32))) + ((((a0 - ((a0.toUInt32 >>> ((1 : Int32).toUInt32 &&& Int32.toUInt32 31)).toInt32 &&& (1431655765 : Int32))) &&& (858993459 : Int32)) + (((a0 - ((a0.toUInt32 >>> ((1 : Int32).toUInt32 &&& Int32.toUInt32 31)).toInt32 &&& (1431655765 : Int32))).toUInt32 >>> ((2 : Int32).toUInt32 &&& Int32.toUInt32 31)).toInt32 &&& (858993459 : Int32))).toUInt32 >>> ((4 : Int32).toUInt32 &&& Int32.toUInt32 31)).toInt32) &&& (252645135 : Int32)) + ((((((a0 - ((a0.toUInt32 >>> ((1 : Int32).toUInt32 &&& Int32.toUInt32 31)).toInt32 &&& (1431655765 : Int32))) &&& (858993459 : Int32)) + (((a0 - ((a0.toUInt32 >>> ((1 : Int32).toUInt32 &&& Int32.toUInt32 31)).toInt32 &&& (1431655765 : Int32))).toUInt32 >>> ((2 : Int32).toUInt32 &&& Int32.toUInt32 31)).toInt32 &&& (858993459 : Int32))) + ((((a0 - ((a0.toUInt32 >>> ((1 : Int32).toUInt32 &&& Int32.toUInt32 31)).toInt32 &&& (1431655765 : Int32))) &&& (858993459 : Int32)) + (((a0 - ((a0.toUInt32 >>> ((1 : Int32).toUInt32 &&& Int32.toUInt32 31)).toInt32 &&& (1431655765 : Int32))).toUInt32 >>> ((2 : Int32).toUInt32 &&& Int32.toUInt32 31)).toInt32 &&& (858993459 : Int32))).toUInt32 >>> ((4 : Int32).toUInt32 &&& Int32.toUInt32 31)).toInt32) &&& (252645135 : Int32)).toUInt32 >>> ((8 : Int32).toUInt32 &&& Int32.toUInt32 31)).toInt32) + (((((((a0 - ((a0.toUInt32 >>> ((1 : Int32).toUInt32 &&& Int32.toUInt32 31)).toInt32 &&& (1431655765 : Int32))) &&& (858993459 : Int32)) + (((a0 - ((a0.toUInt32 >>> ((1 : Int32).toUInt32 &&& Int32.toUInt32 31)).toInt32 &&& (1431655765 : Int32))).toUInt32 >>> ((2 : Int32).toUInt32 &&& Int32.toUInt32 31)).toInt32 &&& (858993459 : Int32))) + ((((a0 - ((a0.toUInt32 >>> ((1 : Int32).toUInt32 &&& Int32.toUInt32 31)).toInt32 &&& (1431655765 : Int32))) &&& (858993459 : Int32)) + (((a0 - ((a0.toUInt32 >>> ((1 : Int32).toUInt32 &&& Int32.toUInt32 31)).toInt32 &&& (1431655765 : Int32))).toUInt32 >>> ((2 : Int32).toUInt32 &&& Int32.toUInt32 31)).toInt32 &&& (858993459 : Int32))).toUInt32 >>> ((4 : Int32).toUInt32 &&& Int32.toUInt32 31)).toInt32) &&& (252645135 : Int32)) + ((((((a0 - ((a0.toUInt32 >>> ((1 : Int32).toUInt32 &&& Int32.toUInt32 31)).toInt32 &&& (1431655765 : Int32))) &&& (858993459 : Int32)) + (((a0 - ((a0.toUInt32 >>> ((1 : Int32).toUInt32 &&& Int32.toUInt32 31)).toInt32 &&& (1431655765 : Int32))).toUInt32 >>> ((2 : Int32).toUInt32 &&& Int32.toUInt32 31)).toInt32 &&& (858993459 : Int32))) + ((((a0 - ((a0.toUInt32 >>> ((1 : Int32).toUInt32 &&& Int32.toUInt32 31)).toInt32 &&& (1431655765 : Int32))) &&& (858993459 : Int32)) + (((a0 - ((a0.toUInt32 >>> ((1 : Int32).toUInt32 &&& Int32.toUInt32 31)).toInt32 &&& (1431655765 : Int32))).toUInt32 >>> ((2 : Int32).toUInt32 &&& Int32.toUInt32 31)).toInt32 &&& (858993459 : Int32))).toUInt32 >>> ((4 : Int32).toUInt32 &&& Int32.toUInt32 31)).toInt32) &&& (252645135 : Int32)).toUInt32 >>> ((8 : Int32).toUInt32 &&& Int32.toUInt32 31)).toInt32).toUInt32 >>> ((16 : Int32).toUInt32 &&& Int32.toUInt32 31)).toInt32))]) hx hb dJ6_bitCount_0f7a4_47 rfl hl (by decide) rfl (fun ls hl => ?_)
  refine lv_iload_n hx hb dJ6_bitCount_0f7a4_48 rfl (lv_at hl 0 rfl) ?_
  refine lv_bipush (v := (63 : Int32)) hx hb dJ6_bitCount_0f7a4_49 (by decide) ?_
  refine lv_iand hx hb dJ6_bitCount_0f7a4_51 ?_
  exact W.iret (v := ((((((((a0 - ((a0.toUInt32 >>> ((1 : Int32).toUInt32 &&& Int32.toUInt32 31)).toInt32 &&& (1431655765 : Int32))) &&& (858993459 : Int32)) + (((a0 - ((a0.toUInt32 >>> ((1 : Int32).toUInt32 &&& Int32.toUInt32 31)).toInt32 &&& (1431655765 : Int32))).toUInt32 >>> ((2 : Int32).toUInt32 &&& Int32.toUInt32 31)).toInt32 &&& (858993459 : Int32))) + ((((a0 - ((a0.toUInt32 >>> ((1 : Int32).toUInt32 &&& Int32.toUInt32 31)).toInt32 &&& (1431655765 : Int32))) &&& (858993459 : Int32)) + (((a0 - ((a0.toUInt32 >>> ((1 : Int32).toUInt32 &&& Int32.toUInt32 31)).toInt32 &&& (1431655765 : Int32))).toUInt32 >>> ((2 : Int32).toUInt32 &&& Int32.toUInt32 31)).toInt32 &&& (858993459 : Int32))).toUInt32 >>> ((4 : Int32).toUInt32 &&& Int32.toUInt32 31)).toInt32) &&& (252645135 : Int32)) + ((((((a0 - ((a0.toUInt32 >>> ((1 : Int32).toUInt32 &&& Int32.toUInt32 31)).toInt32 &&& (1431655765 : Int32))) &&& (858993459 : Int32)) + (((a0 - ((a0.toUInt32 >>> ((1 : Int32).toUInt32 &&& Int32.toUInt32 31)).toInt32 &&& (1431655765 : Int32))).toUInt32 >>> ((2 : Int32).toUInt32 &&& Int32.toUInt32 31)).toInt32 &&& (858993459 : Int32))) + ((((a0 - ((a0.toUInt32 >>> ((1 : Int32).toUInt32 &&& Int32.toUInt32 31)).toInt32 &&& (1431655765 : Int32))) &&& (858993459 : Int32)) + (((a0 - ((a0.toUInt32 >>> ((1 : Int32).toUInt32 &&& Int32.toUInt32 31)).toInt32 &&& (1431655765 : Int32))).toUInt32 >>> ((2 : Int32).toUInt32 &&& Int32.toUInt32 31)).toInt32 &&& (858993459 : Int32))).toUInt32 >>> ((4 : Int32).toUInt32 &&& Int32.toUInt32 31)).toInt32) &&& (252645135 : Int32)).toUInt32 >>> ((8 : Int32).toUInt32 &&& Int32.toUInt32 31)).toInt32) + (((((((a0 - ((a0.toUInt32 >>> ((1 : Int32).toUInt32 &&& Int32.toUInt32 31)).toInt32 &&& (1431655765 : Int32))) &&& (858993459 : Int32)) + (((a0 - ((a0.toUInt32 >>> ((1 : Int32).toUInt32 &&& Int32.toUInt32 31)).toInt32 &&& (1431655765 : Int32))).toUInt32 >>> ((2 : Int32).toUInt32 &&& Int32.toUInt32 31)).toInt32 &&& (858993459 : Int32))) + ((((a0 - ((a0.toUInt32 >>> ((1 : Int32).toUInt32 &&& Int32.toUInt32 31)).toInt32 &&& (1431655765 : Int32))) &&& (858993459 : Int32)) + (((a0 - ((a0.toUInt32 >>> ((1 : Int32).toUInt32 &&& Int32.toUInt32 31)).toInt32 &&& (1431655765 : Int32))).toUInt32 >>> ((2 : Int32).toUInt32 &&& Int32.toUInt32 31)).toInt32 &&& (858993459 : Int32))).toUInt32 >>> ((4 : Int32).toUInt32 &&& Int32.toUInt32 31)).toInt32) &&& (252645135 : Int32)) + ((((((a0 - ((a0.toUInt32 >>> ((1 : Int32).toUInt32 &&& Int32.toUInt32 31)).toInt32 &&& (1431655765 : Int32))) &&& (858993459 : Int32)) + (((a0 - ((a0.toUInt32 >>> ((1 : Int32).toUInt32 &&& Int32.toUInt32 31)).toInt32 &&& (1431655765 : Int32))).toUInt32 >>> ((2 : Int32).toUInt32 &&& Int32.toUInt32 31)).toInt32 &&& (858993459 : Int32))) + ((((a0 - ((a0.toUInt32 >>> ((1 : Int32).toUInt32 &&& Int32.toUInt32 31)).toInt32 &&& (1431655765 : Int32))) &&& (858993459 : Int32)) + (((a0 - ((a0.toUInt32 >>> ((1 : Int32).toUInt32 &&& Int32.toUInt32 31)).toInt32 &&& (1431655765 : Int32))).toUInt32 >>> ((2 : Int32).toUInt32 &&& Int32.toUInt32 31)).toInt32 &&& (858993459 : Int32))).toUInt32 >>> ((4 : Int32).toUInt32 &&& Int32.toUInt32 31)).toInt32) &&& (252645135 : Int32)).toUInt32 >>> ((8 : Int32).toUInt32 &&& Int32.toUInt32 31)).toInt32).toUInt32 >>> ((16 : Int32).toUInt32 &&& Int32.toUInt32 31)).toInt32) &&& (63 : Int32))) hx hb hr (fun t ht hW => ⟨((((((((a0 - ((a0.toUInt32 >>> ((1 : Int32).toUInt32 &&& Int32.toUInt32 31)).toInt32 &&& (1431655765 : Int32))) &&& (858993459 : Int32)) + (((a0 - ((a0.toUInt32 >>> ((1 : Int32).toUInt32 &&& Int32.toUInt32 31)).toInt32 &&& (1431655765 : Int32))).toUInt32 >>> ((2 : Int32).toUInt32 &&& Int32.toUInt32 31)).toInt32 &&& (858993459 : Int32))) + ((((a0 - ((a0.toUInt32 >>> ((1 : Int32).toUInt32 &&& Int32.toUInt32 31)).toInt32 &&& (1431655765 : Int32))) &&& (858993459 : Int32)) + (((a0 - ((a0.toUInt32 >>> ((1 : Int32).toUInt32 &&& Int32.toUInt32 31)).toInt32 &&& (1431655765 : Int32))).toUInt32 >>> ((2 : Int32).toUInt32 &&& Int32.toUInt32 31)).toInt32 &&& (858993459 : Int32))).toUInt32 >>> ((4 : Int32).toUInt32 &&& Int32.toUInt32 31)).toInt32) &&& (252645135 : Int32)) + ((((((a0 - ((a0.toUInt32 >>> ((1 : Int32).toUInt32 &&& Int32.toUInt32 31)).toInt32 &&& (1431655765 : Int32))) &&& (858993459 : Int32)) + (((a0 - ((a0.toUInt32 >>> ((1 : Int32).toUInt32 &&& Int32.toUInt32 31)).toInt32 &&& (1431655765 : Int32))).toUInt32 >>> ((2 : Int32).toUInt32 &&& Int32.toUInt32 31)).toInt32 &&& (858993459 : Int32))) + ((((a0 - ((a0.toUInt32 >>> ((1 : Int32).toUInt32 &&& Int32.toUInt32 31)).toInt32 &&& (1431655765 : Int32))) &&& (858993459 : Int32)) + (((a0 - ((a0.toUInt32 >>> ((1 : Int32).toUInt32 &&& Int32.toUInt32 31)).toInt32 &&& (1431655765 : Int32))).toUInt32 >>> ((2 : Int32).toUInt32 &&& Int32.toUInt32 31)).toInt32 &&& (858993459 : Int32))).toUInt32 >>> ((4 : Int32).toUInt32 &&& Int32.toUInt32 31)).toInt32) &&& (252645135 : Int32)).toUInt32 >>> ((8 : Int32).toUInt32 &&& Int32.toUInt32 31)).toInt32) + (((((((a0 - ((a0.toUInt32 >>> ((1 : Int32).toUInt32 &&& Int32.toUInt32 31)).toInt32 &&& (1431655765 : Int32))) &&& (858993459 : Int32)) + (((a0 - ((a0.toUInt32 >>> ((1 : Int32).toUInt32 &&& Int32.toUInt32 31)).toInt32 &&& (1431655765 : Int32))).toUInt32 >>> ((2 : Int32).toUInt32 &&& Int32.toUInt32 31)).toInt32 &&& (858993459 : Int32))) + ((((a0 - ((a0.toUInt32 >>> ((1 : Int32).toUInt32 &&& Int32.toUInt32 31)).toInt32 &&& (1431655765 : Int32))) &&& (858993459 : Int32)) + (((a0 - ((a0.toUInt32 >>> ((1 : Int32).toUInt32 &&& Int32.toUInt32 31)).toInt32 &&& (1431655765 : Int32))).toUInt32 >>> ((2 : Int32).toUInt32 &&& Int32.toUInt32 31)).toInt32 &&& (858993459 : Int32))).toUInt32 >>> ((4 : Int32).toUInt32 &&& Int32.toUInt32 31)).toInt32) &&& (252645135 : Int32)) + ((((((a0 - ((a0.toUInt32 >>> ((1 : Int32).toUInt32 &&& Int32.toUInt32 31)).toInt32 &&& (1431655765 : Int32))) &&& (858993459 : Int32)) + (((a0 - ((a0.toUInt32 >>> ((1 : Int32).toUInt32 &&& Int32.toUInt32 31)).toInt32 &&& (1431655765 : Int32))).toUInt32 >>> ((2 : Int32).toUInt32 &&& Int32.toUInt32 31)).toInt32 &&& (858993459 : Int32))) + ((((a0 - ((a0.toUInt32 >>> ((1 : Int32).toUInt32 &&& Int32.toUInt32 31)).toInt32 &&& (1431655765 : Int32))) &&& (858993459 : Int32)) + (((a0 - ((a0.toUInt32 >>> ((1 : Int32).toUInt32 &&& Int32.toUInt32 31)).toInt32 &&& (1431655765 : Int32))).toUInt32 >>> ((2 : Int32).toUInt32 &&& Int32.toUInt32 31)).toInt32 &&& (858993459 : Int32))).toUInt32 >>> ((4 : Int32).toUInt32 &&& Int32.toUInt32 31)).toInt32) &&& (252645135 : Int32)).toUInt32 >>> ((8 : Int32).toUInt32 &&& Int32.toUInt32 31)).toInt32).toUInt32 >>> ((16 : Int32).toUInt32 &&& Int32.toUInt32 31)).toInt32) &&& (63 : Int32)), rfl, hq, ht⟩) (fun q h => absurd h List.not_mem_nil) dJ6_bitCount_0f7a4_52
set_option maxHeartbeats 4000000 in
set_option maxRecDepth 100000 in
theorem c1_startWith (l : Launch) (dC : Nat → ClassId) (dI : Nat → Nat → Nat) (cs : Nat → ClassId) (ao : Nat → Nat) (sz : Nat) (o_row : Nat → Int32) (o_made : Nat → Int32) (o_size : Int32) (a1 : Int32) {Q : (Nat → Int32) → Int32 → Prop} (hq : q1_startWith o_row o_size a1 Q) : Met l yX1_startWith (.code yX1_startWith cX1_startWith 3 none :: gt) ({ frames := 1, cells := 0, slots := 0, locals := 21 } : Room) (va_Pc [.ref (ao 0), .int a1] (Pw (dC, dI) (KA cs) (wX1 cs ao o_row o_made o_size) sz)) (va_Qv (fun (u : (Nat → Int32) × Int32) => Q u.1 u.2) (Bw (dC, dI) (KA cs) (va_A (wX1 cs ao o_row o_made o_size) sz) (fun u : (Nat → Int32) × Int32 => (wX1 cs ao u.1 o_made u.2))) (va_A (wX1 cs ao o_row o_made o_size) sz)) 0 0 (va_A (wX1 cs ao o_row o_made o_size) sz) := by
  refine Met.ofW (cc := cX1_startWith) (maxL := 3) (ret := none) (by decide) rfl ?_
  intro p e s m args below meth c s₁ B hml hv
  obtain ⟨rfl, hsz, hP, hK, hD0, hN⟩ := hv
  have hx := B.exec
  have hb := B.bytes
  have hr := B.returns
  have hts0 := atoms_spec (ws := (.code yX1_startWith cX1_startWith 3 none :: gt)) B.pre
  have hts : ∀ w ∈ gt, w.before _ s = true := fun w h => hts0 w (List.mem_cons_of_mem _ h)
  have hown : s.vm.findClass RX1 = some m.cls := findClass_of_methodNamed B.named
  have hlocks := B.notSynchronized
  subst hsz
  have hD := hD0.self (sz := s.heap.size)
  generalize hAe : va_A (wX1 cs ao o_row o_made o_size) s.heap.size = A at hD ⊢
  have hA : ∀ q : Nat, s.heap.size ≤ q → A q := fun q h => by rw [← hAe]; exact Or.inr h
  have hS : va_S A s.heap s.heap [] := va_S.rf
  have hl := lv_entry ([.ref (ao 0), .int a1]) (n := 3) (Nat.le_of_ble_eq_true rfl)
  rw [lg_entry_eq]
  generalize (lg_sl ([.ref (ao 0), .int a1]) ++ List.replicate (3 - (lg_sl ([.ref (ao 0), .int a1])).length) Slot.unset).toArray = ls at hl ⊢
  have hl : lv_has ls 3 [(0, .ref (ao 0)), (1, .int a1)] := hl
  have B12 : ∀ (k12 : Nat) (x2 : Int32) (o_row : Nat → Int32) (o_size : Int32) (H : Heap) (locs : List Loc) (ls : Array Slot), q1_startWith_12 Q k12 x2 o_row o_size → va_P (dC, dI) vwCl (wX1 cs ao o_row o_made o_size) H → va_D A (wX1 cs ao o_row o_made o_size) → va_S A s.heap H locs → lv_has ls 3 [(0, .ref (ao 0)), (2, .int x2)] → W p l e ({ frames := 1, cells := 0, slots := 0, locals := 21 } : Room) s m ([.ref (ao 0), .int a1] : List Value).toArray below meth c H locs 0 0 (MQ below (va_Qv (fun (u : (Nat → Int32) × Int32) => Q u.1 u.2) (Bw (dC, dI) (KA cs) A (fun u : (Nat → Int32) × Int32 => (wX1 cs ao u.1 o_made u.2))) A) ([.ref (ao 0), .int a1] : List Value).toArray s 0 0 A) (F0 m 12 ls []) := by
    intro k12
    induction k12 with
    | zero => intro x2 o_row o_size H locs ls hq; exact False.elim hq
    | succ k12 ih12 =>
      intro x2 o_row o_size H locs ls hq hP hD hS hl
      unfold q1_startWith_12 at hq
      refine lv_iload_n hx hb dX1_startWith_12 rfl (lv_at hl 1 rfl) ?_
      refine lv_aload_n hx hb dX1_startWith_13 rfl (lv_at hl 0 rfl) ?_
      refine va_get (D := (dC, dI)) (ci := 1) (v := .int o_size) (C := RX1) (T := TX1) (N := 3) hx hb hts uwX1 hown hK hP 0 rfl rfl 2 (by decide) (hts _ fl_X1_24) (fun _ h9 => h9) rfl dX1_startWith_14 ?_
      refine lv_icmp_ge (tgt := 33) hx hb dX1_startWith_17 (by decide) (fun c3 => ?_) (fun c3 => ?_)
      · have hq := hq.1 c3
        exact W.vret hx hb hr (fun t ht hW => ⟨⟨(o_row, o_size), rfl, hq, Bw_mk (by rw [ht]; exact hP) (va_K.moved hW.alike hK) hD⟩, hS.F ht⟩) hS.2.2 dX1_startWith_33
      · have hq := hq.2 c3
        refine lv_aload_n hx hb dX1_startWith_20 rfl (lv_at hl 0 rfl) ?_
        refine va_get (D := (dC, dI)) (ci := 1) (v := .ref (ao 1)) (C := RX1) (T := TX1) (N := 3) hx hb hts uwX1 hown hK hP 0 rfl rfl 0 (by decide) (hts _ fl_X1_9) (fun _ h9 => h9) rfl dX1_startWith_21 ?_
        refine lv_iload_n hx hb dX1_startWith_24 rfl (lv_at hl 1 rfl) ?_
        refine lv_iload_n hx hb dX1_startWith_25 rfl (lv_at hl 1 rfl) ?_
        obtain ⟨i4, hq⟩ := hq
        refine va_iast hx hb hK hP hD hS 1 0 rfl rfl i4 dX1_startWith_26 (fun H locs hP hD hS => ?_)
        have hP : va_P (dC, dI) vwCl (wX1 cs ao (upd o_row x2.toNatClampNeg x2) o_made o_size) H := hP
        have hD : va_D A (wX1 cs ao (upd o_row x2.toNatClampNeg x2) o_made o_size) := hD
        refine lv_iinc (v := (x2 + (1 : Int32))) (lv' := [(2, .int (x2 + (1 : Int32))), (0, .ref (ao 0))]) hx hb dX1_startWith_27 hl (k := 1) rfl (by rfl) (by decide) rfl (fun ls hl => ?_)
        refine lv_goto (tgt := 12) hx hb dX1_startWith_30 (by decide) ?_
        exact ih12 (x2 + (1 : Int32)) (upd o_row x2.toNatClampNeg x2) o_size _ _ _ hq hP hD hS (lv_sub hl [1, 0] rfl)
  unfold q1_startWith at hq
  refine lv_aload_n hx hb dX1_startWith_0 rfl (lv_at hl 0 rfl) ?_
  refine lv_iload_n hx hb dX1_startWith_1 rfl (lv_at hl 1 rfl) ?_
  refine lv_bipush (v := (18 : Int32)) hx hb dX1_startWith_2 (by decide) ?_
  refine va_mmin hx hb (hml.trans hl.1.symm) hown (hts _ ml_X1_18) (hts _ sm_J9_min) (hts _ in_J9) (hts _ cw_J9_min) (Nat.le_of_ble_eq_true rfl) (Nat.le_of_ble_eq_true rfl) (Nat.le_of_ble_eq_true rfl) (Nat.le_of_ble_eq_true rfl) dX1_startWith_4 ?_
  refine va_put (D := (dC, dI)) (ci := 1) (v := .int (if (18 : Int32) < a1 then (18 : Int32) else a1)) (ty := .int) (C := RX1) (T := TX1) (N := 3) hx hb hts uwX1 tyX1 tyX1_ok nmX1 hown hK hP hD hS 0 rfl rfl 2 (by decide) (hts _ fl_X1_24) (fun _ h9 => h9) rfl (by decide +kernel) rfl rfl (Nat.le_of_ble_eq_true rfl) dX1_startWith_7 (fun H locs hP hD hS => ?_)
  have hP : va_P (dC, dI) vwCl (wX1 cs ao o_row o_made (if (18 : Int32) < a1 then (18 : Int32) else a1)) H := hP
  have hD : va_D A (wX1 cs ao o_row o_made (if (18 : Int32) < a1 then (18 : Int32) else a1)) := hD
  refine lv_iconst (v := (0 : Int32)) hx hb dX1_startWith_10 (by decide) ?_
  refine lv_istore_n (lv' := [(2, .int (0 : Int32)), (0, .ref (ao 0)), (1, .int a1)]) hx hb dX1_startWith_11 rfl hl (by decide) rfl (fun ls hl => ?_)
  obtain ⟨kf, hq⟩ := hq
  exact B12 kf (0 : Int32) o_row (if (18 : Int32) < a1 then (18 : Int32) else a1) _ _ _ hq hP hD hS (lv_sub hl [1, 0] rfl)
set_option maxHeartbeats 4000000 in
set_option maxRecDepth 100000 in
theorem c1_holds (l : Launch) (dC : Nat → ClassId) (dI : Nat → Nat → Nat) (cs : Nat → ClassId) (ao : Nat → Nat) (o_row : Nat → Int32) (o_made : Nat → Int32) (o_size : Int32) (a1 : Int32) {Q : Int32 → Prop} (hq : q1_holds o_size a1 Q) : Met l yX1_holds (.code yX1_holds cX1_holds 2 (some .boolean) :: gt) ({ frames := 0, cells := 0, slots := 0, locals := 0 } : Room) (va_Pc [.ref (ao 0), .int a1] (Pr (dC, dI) (KA cs) (wX1 cs ao o_row o_made o_size))) (vp_Si Q) 0 0 (fun _ => False) := by
  refine Met.ofW (cc := cX1_holds) (maxL := 2) (ret := (some .boolean)) (by decide) rfl ?_
  intro p e s m args below meth c s₁ B hml hv
  obtain ⟨rfl, hP, hK, hN⟩ := hv
  have hx := B.exec
  have hb := B.bytes
  have hr := B.returns
  have hts0 := atoms_spec (ws := (.code yX1_holds cX1_holds 2 (some .boolean) :: gt)) B.pre
  have hts : ∀ w ∈ gt, w.before _ s = true := fun w h => hts0 w (List.mem_cons_of_mem _ h)
  have hown : s.vm.findClass RX1 = some m.cls := findClass_of_methodNamed B.named
  have hlocks := B.notSynchronized
  have hl := lv_entry ([.ref (ao 0), .int a1]) (n := 2) (Nat.le_of_ble_eq_true rfl)
  rw [lg_entry_eq]
  generalize (lg_sl ([.ref (ao 0), .int a1]) ++ List.replicate (2 - (lg_sl ([.ref (ao 0), .int a1])).length) Slot.unset).toArray = ls at hl ⊢
  have hl : lv_has ls 2 [(0, .ref (ao 0)), (1, .int a1)] := hl
  unfold q1_holds at hq
  refine lv_iload_n hx hb dX1_holds_0 rfl (lv_at hl 1 rfl) ?_
  refine lv_if_lt (tgt := 16) hx hb dX1_holds_1 (by decide) (fun c3 => ?_) (fun c3 => ?_)
  · have hq := hq.1 c3
    refine lv_iconst (v := (0 : Int32)) hx hb dX1_holds_16 (by decide) ?_
    exact W.zret (ty := .boolean) (v := (0 : Int32)) hx hb hr rfl (fun t ht hW => ⟨(0 : Int32), rfl, hq, ht⟩) (fun q h => absurd h List.not_mem_nil) dX1_holds_17
  · have hq := hq.2 c3
    refine lv_iload_n hx hb dX1_holds_4 rfl (lv_at hl 1 rfl) ?_
    refine lv_aload_n hx hb dX1_holds_5 rfl (lv_at hl 0 rfl) ?_
    refine va_get (D := (dC, dI)) (ci := 1) (v := .int o_size) (C := RX1) (T := TX1) (N := 3) hx hb hts uwX1 hown hK hP 0 rfl rfl 2 (by decide) (hts _ fl_X1_24) (fun _ h9 => h9) rfl dX1_holds_6 ?_
    refine lv_icmp_ge (tgt := 16) hx hb dX1_holds_9 (by decide) (fun c4 => ?_) (fun c4 => ?_)
    · have hq := hq.1 c4
      refine lv_iconst (v := (0 : Int32)) hx hb dX1_holds_16 (by decide) ?_
      exact W.zret (ty := .boolean) (v := (0 : Int32)) hx hb hr rfl (fun t ht hW => ⟨(0 : Int32), rfl, hq, ht⟩) (fun q h => absurd h List.not_mem_nil) dX1_holds_17
    · have hq := hq.2 c4
      refine lv_iconst (v := (1 : Int32)) hx hb dX1_holds_12 (by decide) ?_
      refine lv_goto (tgt := 17) hx hb dX1_holds_13 (by decide) ?_
      exact W.zret (ty := .boolean) (v := (1 : Int32)) hx hb hr rfl (fun t ht hW => ⟨(1 : Int32), rfl, hq, ht⟩) (fun q h => absurd h List.not_mem_nil) dX1_holds_17
set_option maxHeartbeats 4000000 in
set_option maxRecDepth 100000 in
theorem c1_follow (l : Launch) (dC : Nat → ClassId) (dI : Nat → Nat → Nat) (cs : Nat → ClassId) (ao : Nat → Nat) (o_row : Nat → Int32) (o_made : Nat → Int32) (o_size : Int32) (a1 : Int32) {Q : Int32 → Prop} (hq : q1_follow o_row o_size a1 Q) : Met l yX1_follow (.code yX1_follow cX1_follow 2 (some .int) :: gt) ({ frames := 1, cells := 0, slots := 0, locals := 21 } : Room) (va_Pc [.ref (ao 0), .int a1] (Pr (dC, dI) (KA cs) (wX1 cs ao o_row o_made o_size))) (vp_Si Q) 0 0 (fun _ => False) := by
  refine Met.ofW (cc := cX1_follow) (maxL := 2) (ret := (some .int)) (by decide) rfl ?_
  intro p e s m args below meth c s₁ B hml hv
  obtain ⟨rfl, hP, hK, hN⟩ := hv
  have hx := B.exec
  have hb := B.bytes
  have hr := B.returns
  have hts0 := atoms_spec (ws := (.code yX1_follow cX1_follow 2 (some .int) :: gt)) B.pre
  have hts : ∀ w ∈ gt, w.before _ s = true := fun w h => hts0 w (List.mem_cons_of_mem _ h)
  have hown : s.vm.findClass RX1 = some m.cls := findClass_of_methodNamed B.named
  have hlocks := B.notSynchronized
  have hl := lv_entry ([.ref (ao 0), .int a1]) (n := 2) (Nat.le_of_ble_eq_true rfl)
  rw [lg_entry_eq]
  generalize (lg_sl ([.ref (ao 0), .int a1]) ++ List.replicate (2 - (lg_sl ([.ref (ao 0), .int a1])).length) Slot.unset).toArray = ls at hl ⊢
  have hl : lv_has ls 2 [(0, .ref (ao 0)), (1, .int a1)] := hl
  unfold q1_follow at hq
  refine lv_aload_n hx hb dX1_follow_0 rfl (lv_at hl 0 rfl) ?_
  refine lv_iload_n hx hb dX1_follow_1 rfl (lv_at hl 1 rfl) ?_
  refine roi (runV ⟨hx, hb, hml, hown, hts⟩ wf_X1_holds ml_X1_28 (c1_holds l dC dI cs ao o_row o_made o_size a1 hq) ⟨⟨rfl, rfl⟩, by decide, by decide⟩ (preR hP hK hN) hK hP rfl 0 rfl rfl hl.1 rfl (Nat.le_of_ble_eq_true rfl) dX1_follow_2 ⟨(Nat.le_of_ble_eq_true rfl), (Nat.le_of_ble_eq_true rfl)⟩) (fun r4 hq => ?_)
  refine lv_if_eq (tgt := 17) hx hb dX1_follow_5 (by decide) (fun c5 => ?_) (fun c5 => ?_)
  · have hq := hq.1 c5
    refine lv_iconst (v := (0 : Int32)) hx hb dX1_follow_17 (by decide) ?_
    exact W.iret (v := (0 : Int32)) hx hb hr (fun t ht hW => ⟨(0 : Int32), rfl, hq, ht⟩) (fun q h => absurd h List.not_mem_nil) dX1_follow_18
  · have hq := hq.2 c5
    refine lv_aload_n hx hb dX1_follow_8 rfl (lv_at hl 0 rfl) ?_
    refine va_get (D := (dC, dI)) (ci := 1) (v := .ref (ao 1)) (C := RX1) (T := TX1) (N := 3) hx hb hts uwX1 hown hK hP 0 rfl rfl 0 (by decide) (hts _ fl_X1_9) (fun _ h9 => h9) rfl dX1_follow_9 ?_
    refine lv_iload_n hx hb dX1_follow_12 rfl (lv_at hl 1 rfl) ?_
    obtain ⟨i6, hq⟩ := hq
    refine va_iald hx hb hK hP 1 0 rfl rfl i6 dX1_follow_13 ?_
    refine lv_goto (tgt := 18) hx hb dX1_follow_14 (by decide) ?_
    exact W.iret (v := (o_row a1.toNatClampNeg)) hx hb hr (fun t ht hW => ⟨(o_row a1.toNatClampNeg), rfl, hq, ht⟩) (fun q h => absurd h List.not_mem_nil) dX1_follow_18
set_option maxHeartbeats 4000000 in
set_option maxRecDepth 100000 in
theorem c1_makeAt (l : Launch) (dC : Nat → ClassId) (dI : Nat → Nat → Nat) (cs : Nat → ClassId) (ao : Nat → Nat) (sz : Nat) (o_row : Nat → Int32) (o_made : Nat → Int32) (o_size : Int32) (a1 : Int32) (a2 : Int32) {Q : (Nat → Int32) → Prop} (hq : q1_makeAt o_size o_made a1 a2 Q) : Met l yX1_makeAt (.code yX1_makeAt cX1_makeAt 3 none :: gt) ({ frames := 1, cells := 0, slots := 0, locals := 21 } : Room) (va_Pc [.ref (ao 0), .int a1, .int a2] (Pw (dC, dI) (KA cs) (wX1 cs ao o_row o_made o_size) sz)) (va_Qv (fun (u : (Nat → Int32)) => Q u) (Bw (dC, dI) (KA cs) (va_A (wX1 cs ao o_row o_made o_size) sz) (fun u : (Nat → Int32) => (wX1 cs ao o_row u o_size))) (va_A (wX1 cs ao o_row o_made o_size) sz)) 0 0 (va_A (wX1 cs ao o_row o_made o_size) sz) := by
  refine Met.ofW (cc := cX1_makeAt) (maxL := 3) (ret := none) (by decide) rfl ?_
  intro p e s m args below meth c s₁ B hml hv
  obtain ⟨rfl, hsz, hP, hK, hD0, hN⟩ := hv
  have hx := B.exec
  have hb := B.bytes
  have hr := B.returns
  have hts0 := atoms_spec (ws := (.code yX1_makeAt cX1_makeAt 3 none :: gt)) B.pre
  have hts : ∀ w ∈ gt, w.before _ s = true := fun w h => hts0 w (List.mem_cons_of_mem _ h)
  have hown : s.vm.findClass RX1 = some m.cls := findClass_of_methodNamed B.named
  have hlocks := B.notSynchronized
  subst hsz
  have hD := hD0.self (sz := s.heap.size)
  generalize hAe : va_A (wX1 cs ao o_row o_made o_size) s.heap.size = A at hD ⊢
  have hA : ∀ q : Nat, s.heap.size ≤ q → A q := fun q h => by rw [← hAe]; exact Or.inr h
  have hS : va_S A s.heap s.heap [] := va_S.rf
  have hl := lv_entry ([.ref (ao 0), .int a1, .int a2]) (n := 3) (Nat.le_of_ble_eq_true rfl)
  rw [lg_entry_eq]
  generalize (lg_sl ([.ref (ao 0), .int a1, .int a2]) ++ List.replicate (3 - (lg_sl ([.ref (ao 0), .int a1, .int a2])).length) Slot.unset).toArray = ls at hl ⊢
  have hl : lv_has ls 3 [(0, .ref (ao 0)), (1, .int a1), (2, .int a2)] := hl
  unfold q1_makeAt at hq
  refine lv_aload_n hx hb dX1_makeAt_0 rfl (lv_at hl 0 rfl) ?_
  refine lv_iload_n hx hb dX1_makeAt_1 rfl (lv_at hl 1 rfl) ?_
  refine roi (runV ⟨hx, hb, hml, hown, hts⟩ wf_X1_holds ml_X1_28 (c1_holds l dC dI cs ao o_row o_made o_size a1 hq) ⟨⟨rfl, rfl⟩, by decide, by decide⟩ (preR hP hK hN) hK hP rfl 0 rfl rfl hl.1 rfl (Nat.le_of_ble_eq_true rfl) dX1_makeAt_2 ⟨(Nat.le_of_ble_eq_true rfl), (Nat.le_of_ble_eq_true rfl)⟩) (fun r4 hq => ?_)
  refine lv_if_eq (tgt := 15) hx hb dX1_makeAt_5 (by decide) (fun c5 => ?_) (fun c5 => ?_)
  · have hq := hq.1 c5
    exact W.vret hx hb hr (fun t ht hW => ⟨⟨o_made, rfl, hq, Bw_mk (by rw [ht]; exact hP) (va_K.moved hW.alike hK) hD⟩, hS.F ht⟩) hS.2.2 dX1_makeAt_15
  · have hq := hq.2 c5
    refine lv_aload_n hx hb dX1_makeAt_8 rfl (lv_at hl 0 rfl) ?_
    refine va_get (D := (dC, dI)) (ci := 1) (v := .ref (ao 2)) (C := RX1) (T := TX1) (N := 3) hx hb hts uwX1 hown hK hP 0 rfl rfl 1 (by decide) (hts _ fl_X1_15) (fun _ h9 => h9) rfl dX1_makeAt_9 ?_
    refine lv_iload_n hx hb dX1_makeAt_12 rfl (lv_at hl 1 rfl) ?_
    refine lv_iload_n hx hb dX1_makeAt_13 rfl (lv_at hl 2 rfl) ?_
    obtain ⟨i6, hq⟩ := hq
    refine va_iast hx hb hK hP hD hS 2 0 rfl rfl i6 dX1_makeAt_14 (fun H locs hP hD hS => ?_)
    have hP : va_P (dC, dI) vwCl (wX1 cs ao o_row (upd o_made a1.toNatClampNeg a2) o_size) H := hP
    have hD : va_D A (wX1 cs ao o_row (upd o_made a1.toNatClampNeg a2) o_size) := hD
    exact W.vret hx hb hr (fun t ht hW => ⟨⟨(upd o_made a1.toNatClampNeg a2), rfl, hq, Bw_mk (by rw [ht]; exact hP) (va_K.moved hW.alike hK) hD⟩, hS.F ht⟩) hS.2.2 dX1_makeAt_15
set_option maxHeartbeats 4000000 in
set_option maxRecDepth 100000 in
theorem c1_keepMade (l : Launch) (dC : Nat → ClassId) (dI : Nat → Nat → Nat) (cs : Nat → ClassId) (ao : Nat → Nat) (sz : Nat) (o_row : Nat → Int32) (o_made : Nat → Int32) (o_size : Int32) {Q : (Nat → Int32) → Prop} (hq : q1_keepMade o_made o_size o_row Q) : Met l yX1_keepMade (.code yX1_keepMade cX1_keepMade 2 none :: gt) ({ frames := 0, cells := 0, slots := 0, locals := 0 } : Room) (va_Pc [.ref (ao 0)] (Pw (dC, dI) (KA cs) (wX1 cs ao o_row o_made o_size) sz)) (va_Qv (fun (u : (Nat → Int32)) => Q u) (Bw (dC, dI) (KA cs) (va_A (wX1 cs ao o_row o_made o_size) sz) (fun u : (Nat → Int32) => (wX1 cs ao u o_made o_size))) (va_A (wX1 cs ao o_row o_made o_size) sz)) 0 0 (va_A (wX1 cs ao o_row o_made o_size) sz) := by
  refine Met.ofW (cc := cX1_keepMade) (maxL := 2) (ret := none) (by decide) rfl ?_
  intro p e s m args below meth c s₁ B hml hv
  obtain ⟨rfl, hsz, hP, hK, hD0, hN⟩ := hv
  have hx := B.exec
  have hb := B.bytes
  have hr := B.returns
  have hts0 := atoms_spec (ws := (.code yX1_keepMade cX1_keepMade 2 none :: gt)) B.pre
  have hts : ∀ w ∈ gt, w.before _ s = true := fun w h => hts0 w (List.mem_cons_of_mem _ h)
  have hown : s.vm.findClass RX1 = some m.cls := findClass_of_methodNamed B.named
  have hlocks := B.notSynchronized
  subst hsz
  have hD := hD0.self (sz := s.heap.size)
  generalize hAe : va_A (wX1 cs ao o_row o_made o_size) s.heap.size = A at hD ⊢
  have hA : ∀ q : Nat, s.heap.size ≤ q → A q := fun q h => by rw [← hAe]; exact Or.inr h
  have hS : va_S A s.heap s.heap [] := va_S.rf
  have hl := lv_entry ([.ref (ao 0)]) (n := 2) (Nat.le_of_ble_eq_true rfl)
  rw [lg_entry_eq]
  generalize (lg_sl ([.ref (ao 0)]) ++ List.replicate (2 - (lg_sl ([.ref (ao 0)])).length) Slot.unset).toArray = ls at hl ⊢
  have hl : lv_has ls 2 [(0, .ref (ao 0))] := hl
  have B2 : ∀ (k2 : Nat) (x1 : Int32) (o_row : Nat → Int32) (H : Heap) (locs : List Loc) (ls : Array Slot), q1_keepMade_2 o_made o_size Q k2 x1 o_row → va_P (dC, dI) vwCl (wX1 cs ao o_row o_made o_size) H → va_D A (wX1 cs ao o_row o_made o_size) → va_S A s.heap H locs → lv_has ls 2 [(0, .ref (ao 0)), (1, .int x1)] → W p l e ({ frames := 0, cells := 0, slots := 0, locals := 0 } : Room) s m ([.ref (ao 0)] : List Value).toArray below meth c H locs 0 0 (MQ below (va_Qv (fun (u : (Nat → Int32)) => Q u) (Bw (dC, dI) (KA cs) A (fun u : (Nat → Int32) => (wX1 cs ao u o_made o_size))) A) ([.ref (ao 0)] : List Value).toArray s 0 0 A) (F0 m 2 ls []) := by
    intro k2
    induction k2 with
    | zero => intro x1 o_row H locs ls hq; exact False.elim hq
    | succ k2 ih2 =>
      intro x1 o_row H locs ls hq hP hD hS hl
      unfold q1_keepMade_2 at hq
      refine lv_iload_n hx hb dX1_keepMade_2 rfl (lv_at hl 1 rfl) ?_
      refine lv_aload_n hx hb dX1_keepMade_3 rfl (lv_at hl 0 rfl) ?_
      refine va_get (D := (dC, dI)) (ci := 1) (v := .int o_size) (C := RX1) (T := TX1) (N := 3) hx hb hts uwX1 hown hK hP 0 rfl rfl 2 (by decide) (hts _ fl_X1_24) (fun _ h9 => h9) rfl dX1_keepMade_4 ?_
      refine lv_icmp_ge (tgt := 28) hx hb dX1_keepMade_7 (by decide) (fun c4 => ?_) (fun c4 => ?_)
      · have hq := hq.1 c4
        exact W.vret hx hb hr (fun t ht hW => ⟨⟨o_row, rfl, hq, Bw_mk (by rw [ht]; exact hP) (va_K.moved hW.alike hK) hD⟩, hS.F ht⟩) hS.2.2 dX1_keepMade_28
      · have hq := hq.2 c4
        refine lv_aload_n hx hb dX1_keepMade_10 rfl (lv_at hl 0 rfl) ?_
        refine va_get (D := (dC, dI)) (ci := 1) (v := .ref (ao 1)) (C := RX1) (T := TX1) (N := 3) hx hb hts uwX1 hown hK hP 0 rfl rfl 0 (by decide) (hts _ fl_X1_9) (fun _ h9 => h9) rfl dX1_keepMade_11 ?_
        refine lv_iload_n hx hb dX1_keepMade_14 rfl (lv_at hl 1 rfl) ?_
        refine lv_aload_n hx hb dX1_keepMade_15 rfl (lv_at hl 0 rfl) ?_
        refine va_get (D := (dC, dI)) (ci := 1) (v := .ref (ao 2)) (C := RX1) (T := TX1) (N := 3) hx hb hts uwX1 hown hK hP 0 rfl rfl 1 (by decide) (hts _ fl_X1_15) (fun _ h9 => h9) rfl dX1_keepMade_16 ?_
        refine lv_iload_n hx hb dX1_keepMade_19 rfl (lv_at hl 1 rfl) ?_
        obtain ⟨i5, hq⟩ := hq
        refine va_iald hx hb hK hP 2 0 rfl rfl i5 dX1_keepMade_20 ?_
        obtain ⟨i6, hq⟩ := hq
        refine va_iast hx hb hK hP hD hS 1 0 rfl rfl i6 dX1_keepMade_21 (fun H locs hP hD hS => ?_)
        have hP : va_P (dC, dI) vwCl (wX1 cs ao (upd o_row x1.toNatClampNeg (o_made x1.toNatClampNeg)) o_made o_size) H := hP
        have hD : va_D A (wX1 cs ao (upd o_row x1.toNatClampNeg (o_made x1.toNatClampNeg)) o_made o_size) := hD
        refine lv_iinc (v := (x1 + (1 : Int32))) (lv' := [(1, .int (x1 + (1 : Int32))), (0, .ref (ao 0))]) hx hb dX1_keepMade_22 hl (k := 1) rfl (by rfl) (by decide) rfl (fun ls hl => ?_)
        refine lv_goto (tgt := 2) hx hb dX1_keepMade_25 (by decide) ?_
        exact ih2 (x1 + (1 : Int32)) (upd o_row x1.toNatClampNeg (o_made x1.toNatClampNeg)) _ _ _ hq hP hD hS (lv_sub hl [1, 0] rfl)
  unfold q1_keepMade at hq
  refine lv_iconst (v := (0 : Int32)) hx hb dX1_keepMade_0 (by decide) ?_
  refine lv_istore_n (lv' := [(1, .int (0 : Int32)), (0, .ref (ao 0))]) hx hb dX1_keepMade_1 rfl hl (by decide) rfl (fun ls hl => ?_)
  obtain ⟨kf, hq⟩ := hq
  exact B2 kf (0 : Int32) o_row _ _ _ hq hP hD hS (lv_sub hl [1, 0] rfl)
set_option maxHeartbeats 4000000 in
set_option maxRecDepth 100000 in
theorem c1_readFigures (l : Launch) (dC : Nat → ClassId) (dI : Nat → Nat → Nat) (cs : Nat → ClassId) (ao : Nat → Nat) (sz : Nat) (o_row : Nat → Int32) (o_made : Nat → Int32) (o_size : Int32) (a1 : Int64) (a3 : Int64) {Q : Int32 → (Nat → Int32) → (Nat → Int32) → Prop} (hq : q1_readFigures o_size o_row o_made a1 a3 Q) : Met l yX1_readFigures (.code yX1_readFigures cX1_readFigures 13 (some .boolean) :: gt) ({ frames := 1, cells := 0, slots := 0, locals := 21 } : Room) (va_Pc [.ref (ao 0), .long a1, .long a3] (Pw (dC, dI) (KA cs) (wX1 cs ao o_row o_made o_size) sz)) (va_Qi (fun (r : Int32) (u : (Nat → Int32) × (Nat → Int32)) => Q r u.1 u.2) (Bw (dC, dI) (KA cs) (va_A (wX1 cs ao o_row o_made o_size) sz) (fun u : (Nat → Int32) × (Nat → Int32) => (wX1 cs ao u.1 u.2 o_size))) (va_A (wX1 cs ao o_row o_made o_size) sz)) 0 0 (va_A (wX1 cs ao o_row o_made o_size) sz) := by
  refine Met.ofW (cc := cX1_readFigures) (maxL := 13) (ret := (some .boolean)) (by decide) rfl ?_
  intro p e s m args below meth c s₁ B hml hv
  obtain ⟨rfl, hsz, hP, hK, hD0, hN⟩ := hv
  have hx := B.exec
  have hb := B.bytes
  have hr := B.returns
  have hts0 := atoms_spec (ws := (.code yX1_readFigures cX1_readFigures 13 (some .boolean) :: gt)) B.pre
  have hts : ∀ w ∈ gt, w.before _ s = true := fun w h => hts0 w (List.mem_cons_of_mem _ h)
  have hown : s.vm.findClass RX1 = some m.cls := findClass_of_methodNamed B.named
  have hlocks := B.notSynchronized
  subst hsz
  have hD := hD0.self (sz := s.heap.size)
  generalize hAe : va_A (wX1 cs ao o_row o_made o_size) s.heap.size = A at hD ⊢
  have hA : ∀ q : Nat, s.heap.size ≤ q → A q := fun q h => by rw [← hAe]; exact Or.inr h
  have hS : va_S A s.heap s.heap [] := va_S.rf
  have hl := lv_entry ([.ref (ao 0), .long a1, .long a3]) (n := 13) (Nat.le_of_ble_eq_true rfl)
  rw [lg_entry_eq]
  generalize (lg_sl ([.ref (ao 0), .long a1, .long a3]) ++ List.replicate (13 - (lg_sl ([.ref (ao 0), .long a1, .long a3])).length) Slot.unset).toArray = ls at hl ⊢
  have hl : lv_has ls 13 [(0, .ref (ao 0)), (1, .long a1), (3, .long a3)] := hl
  have B127 : ∀ (x5 : Int64) (x7 : Int64) (x9 : Int32) (o_row : Nat → Int32) (o_made : Nat → Int32) (H : Heap) (locs : List Loc) (ls : Array Slot), q1_readFigures_127 o_size Q x5 x7 x9 o_row o_made → va_P (dC, dI) vwCl (wX1 cs ao o_row o_made o_size) H → va_D A (wX1 cs ao o_row o_made o_size) → va_S A s.heap H locs → lv_has ls 13 [(0, .ref (ao 0)), (5, .long x5), (7, .long x7), (9, .int x9)] → W p l e ({ frames := 1, cells := 0, slots := 0, locals := 21 } : Room) s m ([.ref (ao 0), .long a1, .long a3] : List Value).toArray below meth c H locs 0 0 (MQ below (va_Qi (fun (r : Int32) (u : (Nat → Int32) × (Nat → Int32)) => Q r u.1 u.2) (Bw (dC, dI) (KA cs) A (fun u : (Nat → Int32) × (Nat → Int32) => (wX1 cs ao u.1 u.2 o_size))) A) ([.ref (ao 0), .long a1, .long a3] : List Value).toArray s 0 0 A) (F0 m 127 ls []) := by
    intro x5 x7 x9 o_row o_made H locs ls hq hP hD hS hl
    unfold q1_readFigures_127 at hq
    refine lv_lload hx hb dX1_readFigures_127 (lv_at hl 1 rfl) ?_
    refine lv_lconst (v := (0 : Int64)) hx hb dX1_readFigures_129 (by decide) ?_
    refine lc_ne (tgt := 154) hx hb dX1_readFigures_130 dX1_readFigures_131 (by decide) (fun c18 => ?_) (fun c18 => ?_)
    · have hq := hq.1 c18
      refine lv_iconst (v := (0 : Int32)) hx hb dX1_readFigures_154 (by decide) ?_
      exact W.zret (ty := .boolean) (v := (0 : Int32)) hx hb hr rfl (fun t ht hW => ⟨⟨(0 : Int32), (o_row, o_made), rfl, hq, Bw_mk (by rw [ht]; exact hP) (va_K.moved hW.alike hK) hD⟩, hS.F ht⟩) hS.2.2 dX1_readFigures_155
    · have hq := hq.2 c18
      refine lv_lload hx hb dX1_readFigures_134 (lv_at hl 2 rfl) ?_
      refine lv_lconst (v := (0 : Int64)) hx hb dX1_readFigures_136 (by decide) ?_
      refine lc_ne (tgt := 154) hx hb dX1_readFigures_137 dX1_readFigures_138 (by decide) (fun c19 => ?_) (fun c19 => ?_)
      · have hq := hq.1 c19
        refine lv_iconst (v := (0 : Int32)) hx hb dX1_readFigures_154 (by decide) ?_
        exact W.zret (ty := .boolean) (v := (0 : Int32)) hx hb hr rfl (fun t ht hW => ⟨⟨(0 : Int32), (o_row, o_made), rfl, hq, Bw_mk (by rw [ht]; exact hP) (va_K.moved hW.alike hK) hD⟩, hS.F ht⟩) hS.2.2 dX1_readFigures_155
      · have hq := hq.2 c19
        refine lv_iload hx hb dX1_readFigures_141 (lv_at hl 3 rfl) ?_
        refine lv_iconst (v := (1 : Int32)) hx hb dX1_readFigures_143 (by decide) ?_
        refine lv_aload_n hx hb dX1_readFigures_144 rfl (lv_at hl 0 rfl) ?_
        refine va_get (D := (dC, dI)) (ci := 1) (v := .int o_size) (C := RX1) (T := TX1) (N := 3) hx hb hts uwX1 hown hK hP 0 rfl rfl 2 (by decide) (hts _ fl_X1_24) (fun _ h9 => h9) rfl dX1_readFigures_145 ?_
        refine lv_ishl hx hb dX1_readFigures_148 ?_
        refine lv_iconst (v := (1 : Int32)) hx hb dX1_readFigures_149 (by decide) ?_
        refine lv_isub hx hb dX1_readFigures_150 ?_
        refine lv_icmp_eq (tgt := 156) hx hb dX1_readFigures_151 (by decide) (fun c20 => ?_) (fun c20 => ?_)
        · have hq := hq.1 c20
          refine lv_aload_n hx hb dX1_readFigures_156 rfl (lv_at hl 0 rfl) ?_
          refine swv (runV ⟨hx, hb, hml, hown, hts⟩ wf_X1_keepMade ml_X1_34 (c1_keepMade l dC dI cs ao _ o_row o_made o_size  hq) ⟨⟨rfl, rfl⟩, by decide, by decide⟩ (preW hP hK hN hD) hK hP rfl 0 rfl rfl hl.1 rfl (Nat.le_of_ble_eq_true rfl) dX1_readFigures_157 ⟨(Nat.le_of_ble_eq_true rfl), (Nat.le_of_ble_eq_true rfl)⟩) hD hS hA (fun  o_row_21 H locs hq hP hD hS => ?_)
          have hP : va_P (dC, dI) vwCl (wX1 cs ao o_row_21 o_made o_size) H := hP
          have hD : va_D A (wX1 cs ao o_row_21 o_made o_size) := hD
          refine lv_iconst (v := (1 : Int32)) hx hb dX1_readFigures_160 (by decide) ?_
          exact W.zret (ty := .boolean) (v := (1 : Int32)) hx hb hr rfl (fun t ht hW => ⟨⟨(1 : Int32), (o_row_21, o_made), rfl, hq, Bw_mk (by rw [ht]; exact hP) (va_K.moved hW.alike hK) hD⟩, hS.F ht⟩) hS.2.2 dX1_readFigures_161
        · have hq := hq.2 c20
          refine lv_iconst (v := (0 : Int32)) hx hb dX1_readFigures_154 (by decide) ?_
          exact W.zret (ty := .boolean) (v := (0 : Int32)) hx hb hr rfl (fun t ht hW => ⟨⟨(0 : Int32), (o_row, o_made), rfl, hq, Bw_mk (by rw [ht]; exact hP) (va_K.moved hW.alike hK) hD⟩, hS.F ht⟩) hS.2.2 dX1_readFigures_155
  have B26 : ∀ (k26 : Nat) (x5 : Int64) (x7 : Int64) (x9 : Int32) (x10 : Int32) (o_row : Nat → Int32) (o_made : Nat → Int32) (H : Heap) (locs : List Loc) (ls : Array Slot), q1_readFigures_26 o_size Q k26 x5 x7 x9 x10 o_row o_made → va_P (dC, dI) vwCl (wX1 cs ao o_row o_made o_size) H → va_D A (wX1 cs ao o_row o_made o_size) → va_S A s.heap H locs → lv_has ls 13 [(0, .ref (ao 0)), (5, .long x5), (7, .long x7), (9, .int x9), (10, .int x10)] → W p l e ({ frames := 1, cells := 0, slots := 0, locals := 21 } : Room) s m ([.ref (ao 0), .long a1, .long a3] : List Value).toArray below meth c H locs 0 0 (MQ below (va_Qi (fun (r : Int32) (u : (Nat → Int32) × (Nat → Int32)) => Q r u.1 u.2) (Bw (dC, dI) (KA cs) A (fun u : (Nat → Int32) × (Nat → Int32) => (wX1 cs ao u.1 u.2 o_size))) A) ([.ref (ao 0), .long a1, .long a3] : List Value).toArray s 0 0 A) (F0 m 26 ls []) := by
    intro k26
    induction k26 with
    | zero => intro x5 x7 x9 x10 o_row o_made H locs ls hq; exact False.elim hq
    | succ k26 ih26 =>
      intro x5 x7 x9 x10 o_row o_made H locs ls hq hP hD hS hl
      have B103 : ∀ (x5 : Int64) (x7 : Int64) (x9 : Int32) (x10 : Int32) (x12 : Int32) (o_row : Nat → Int32) (o_made : Nat → Int32) (H : Heap) (locs : List Loc) (ls : Array Slot), q1_readFigures_103 o_size (fun v0 v1 v2 v3 v4 v5 => q1_readFigures_26 o_size Q k26 v0 v1 v2 v3 v4 v5) Q x5 x7 x9 x10 x12 o_row o_made → va_P (dC, dI) vwCl (wX1 cs ao o_row o_made o_size) H → va_D A (wX1 cs ao o_row o_made o_size) → va_S A s.heap H locs → lv_has ls 13 [(0, .ref (ao 0)), (5, .long x5), (7, .long x7), (9, .int x9), (10, .int x10), (12, .int x12)] → W p l e ({ frames := 1, cells := 0, slots := 0, locals := 21 } : Room) s m ([.ref (ao 0), .long a1, .long a3] : List Value).toArray below meth c H locs 0 0 (MQ below (va_Qi (fun (r : Int32) (u : (Nat → Int32) × (Nat → Int32)) => Q r u.1 u.2) (Bw (dC, dI) (KA cs) A (fun u : (Nat → Int32) × (Nat → Int32) => (wX1 cs ao u.1 u.2 o_size))) A) ([.ref (ao 0), .long a1, .long a3] : List Value).toArray s 0 0 A) (F0 m 103 ls []) := by
        intro x5 x7 x9 x10 x12 o_row o_made H locs ls hq hP hD hS hl
        unfold q1_readFigures_103 at hq
        refine lv_aload_n hx hb dX1_readFigures_103 rfl (lv_at hl 0 rfl) ?_
        refine va_get (D := (dC, dI)) (ci := 1) (v := .ref (ao 2)) (C := RX1) (T := TX1) (N := 3) hx hb hts uwX1 hown hK hP 0 rfl rfl 1 (by decide) (hts _ fl_X1_15) (fun _ h9 => h9) rfl dX1_readFigures_104 ?_
        refine lv_iload hx hb dX1_readFigures_107 (lv_at hl 4 rfl) ?_
        refine lv_iload hx hb dX1_readFigures_109 (lv_at hl 5 rfl) ?_
        obtain ⟨i23, hq⟩ := hq
        refine va_iast hx hb hK hP hD hS 2 0 rfl rfl i23 dX1_readFigures_111 (fun H locs hP hD hS => ?_)
        have hP : va_P (dC, dI) vwCl (wX1 cs ao o_row (upd o_made x10.toNatClampNeg x12) o_size) H := hP
        have hD : va_D A (wX1 cs ao o_row (upd o_made x10.toNatClampNeg x12) o_size) := hD
        refine lv_iload hx hb dX1_readFigures_112 (lv_at hl 3 rfl) ?_
        refine lv_iconst (v := (1 : Int32)) hx hb dX1_readFigures_114 (by decide) ?_
        refine lv_iload hx hb dX1_readFigures_115 (lv_at hl 5 rfl) ?_
        refine lv_ishl hx hb dX1_readFigures_117 ?_
        refine lv_ior hx hb dX1_readFigures_118 ?_
        refine lv_istore (lv' := [(9, .int (x9 ||| ((1 : Int32) <<< (x12 &&& 31)))), (0, .ref (ao 0)), (5, .long x5), (7, .long x7), (10, .int x10), (12, .int x12)]) hx hb dX1_readFigures_119 hl (by decide) rfl (fun ls hl => ?_)
        refine lv_iinc (v := (x10 + (1 : Int32))) (lv' := [(10, .int (x10 + (1 : Int32))), (9, .int (x9 ||| ((1 : Int32) <<< (x12 &&& 31)))), (0, .ref (ao 0)), (5, .long x5), (7, .long x7), (12, .int x12)]) hx hb dX1_readFigures_121 hl (k := 4) rfl (by rfl) (by decide) rfl (fun ls hl => ?_)
        refine lv_goto (tgt := 26) hx hb dX1_readFigures_124 (by decide) ?_
        exact ih26 x5 x7 (x9 ||| ((1 : Int32) <<< (x12 &&& 31))) (x10 + (1 : Int32)) o_row (upd o_made x10.toNatClampNeg x12) _ _ _ hq hP hD hS (lv_sub hl [2, 3, 4, 1, 0] rfl)
      have B61 : ∀ (s0 : Int64) (x5 : Int64) (x7 : Int64) (x9 : Int32) (x10 : Int32) (x11 : Int32) (o_row : Nat → Int32) (o_made : Nat → Int32) (H : Heap) (locs : List Loc) (ls : Array Slot), q1_readFigures_61 o_size (fun v0 v1 v2 v3 v4 v5 => q1_readFigures_26 o_size Q k26 v0 v1 v2 v3 v4 v5) Q s0 x5 x7 x9 x10 x11 o_row o_made → va_P (dC, dI) vwCl (wX1 cs ao o_row o_made o_size) H → va_D A (wX1 cs ao o_row o_made o_size) → va_S A s.heap H locs → lv_has ls 13 [(0, .ref (ao 0)), (5, .long x5), (7, .long x7), (9, .int x9), (10, .int x10), (11, .int x11)] → W p l e ({ frames := 1, cells := 0, slots := 0, locals := 21 } : Room) s m ([.ref (ao 0), .long a1, .long a3] : List Value).toArray below meth c H locs 0 0 (MQ below (va_Qi (fun (r : Int32) (u : (Nat → Int32) × (Nat → Int32)) => Q r u.1 u.2) (Bw (dC, dI) (KA cs) A (fun u : (Nat → Int32) × (Nat → Int32) => (wX1 cs ao u.1 u.2 o_size))) A) ([.ref (ao 0), .long a1, .long a3] : List Value).toArray s 0 0 A) (F0 m 61 ls [.long s0]) := by
        intro s0 x5 x7 x9 x10 x11 o_row o_made H locs ls hq hP hD hS hl
        unfold q1_readFigures_61 at hq
        refine lv_ldc2 (v := (18 : Int64)) hx hb hown (hts _ kl_X1_32) dX1_readFigures_61 ?_
        obtain ⟨z24, hq⟩ := hq
        refine lv_lrem hx hb dX1_readFigures_64 z24 ?_
        refine lv_l2i (v := (s0 - s0 / (18 : Int64) * (18 : Int64)).toInt32) hx hb dX1_readFigures_65 rfl ?_
        refine lv_istore (lv' := [(12, .int ((s0 - s0 / (18 : Int64) * (18 : Int64)).toInt32)), (0, .ref (ao 0)), (5, .long x5), (7, .long x7), (9, .int x9), (10, .int x10), (11, .int x11)]) hx hb dX1_readFigures_66 hl (by decide) rfl (fun ls hl => ?_)
        refine lv_aload_n hx hb dX1_readFigures_68 rfl (lv_at hl 1 rfl) ?_
        refine lv_iload hx hb dX1_readFigures_69 (lv_at hl 0 rfl) ?_
        refine roi (runV ⟨hx, hb, hml, hown, hts⟩ wf_X1_holds ml_X1_28 (c1_holds l dC dI cs ao o_row o_made o_size ((s0 - s0 / (18 : Int64) * (18 : Int64)).toInt32) hq) ⟨⟨rfl, rfl⟩, by decide, by decide⟩ (preR hP hK hN) hK hP rfl 0 rfl rfl hl.1 rfl (Nat.le_of_ble_eq_true rfl) dX1_readFigures_71 ⟨(Nat.le_of_ble_eq_true rfl), (Nat.le_of_ble_eq_true rfl)⟩) (fun r25 hq => ?_)
        refine lv_if_ne (tgt := 79) hx hb dX1_readFigures_74 (by decide) (fun c26 => ?_) (fun c26 => ?_)
        · have hq := hq.1 c26
          refine lv_iload hx hb dX1_readFigures_79 (lv_at hl 6 rfl) ?_
          refine lv_if_eq (tgt := 95) hx hb dX1_readFigures_81 (by decide) (fun c27 => ?_) (fun c27 => ?_)
          · have hq := hq.1 c27
            refine lv_lload hx hb dX1_readFigures_95 (lv_at hl 3 rfl) ?_
            refine lv_ldc2 (v := (18 : Int64)) hx hb hown (hts _ kl_X1_32) dX1_readFigures_97 ?_
            obtain ⟨z28, hq⟩ := hq
            refine lv_ldiv hx hb dX1_readFigures_100 z28 ?_
            refine lv_lstore (lv' := [(7, .long (x7 / (18 : Int64))), (12, .int ((s0 - s0 / (18 : Int64) * (18 : Int64)).toInt32)), (0, .ref (ao 0)), (5, .long x5), (9, .int x9), (10, .int x10), (11, .int x11)]) hx hb dX1_readFigures_101 hl (by decide) rfl (fun ls hl => ?_)
            exact B103 x5 (x7 / (18 : Int64)) x9 x10 ((s0 - s0 / (18 : Int64) * (18 : Int64)).toInt32) o_row o_made _ _ _ hq hP hD hS (lv_sub hl [2, 3, 0, 4, 5, 1] rfl)
          · have hq := hq.2 c27
            refine lv_lload hx hb dX1_readFigures_84 (lv_at hl 2 rfl) ?_
            refine lv_ldc2 (v := (18 : Int64)) hx hb hown (hts _ kl_X1_32) dX1_readFigures_86 ?_
            obtain ⟨z29, hq⟩ := hq
            refine lv_ldiv hx hb dX1_readFigures_89 z29 ?_
            refine lv_lstore (lv' := [(5, .long (x5 / (18 : Int64))), (12, .int ((s0 - s0 / (18 : Int64) * (18 : Int64)).toInt32)), (0, .ref (ao 0)), (7, .long x7), (9, .int x9), (10, .int x10), (11, .int x11)]) hx hb dX1_readFigures_90 hl (by decide) rfl (fun ls hl => ?_)
            refine lv_goto (tgt := 103) hx hb dX1_readFigures_92 (by decide) ?_
            exact B103 (x5 / (18 : Int64)) x7 x9 x10 ((s0 - s0 / (18 : Int64) * (18 : Int64)).toInt32) o_row o_made _ _ _ hq hP hD hS (lv_sub hl [2, 0, 3, 4, 5, 1] rfl)
        · have hq := hq.2 c26
          refine lv_iconst (v := (0 : Int32)) hx hb dX1_readFigures_77 (by decide) ?_
          exact W.zret (ty := .boolean) (v := (0 : Int32)) hx hb hr rfl (fun t ht hW => ⟨⟨(0 : Int32), (o_row, o_made), rfl, hq, Bw_mk (by rw [ht]; exact hP) (va_K.moved hW.alike hK) hD⟩, hS.F ht⟩) hS.2.2 dX1_readFigures_78
      have B47 : ∀ (s0 : Int32) (x5 : Int64) (x7 : Int64) (x9 : Int32) (x10 : Int32) (o_row : Nat → Int32) (o_made : Nat → Int32) (H : Heap) (locs : List Loc) (ls : Array Slot), q1_readFigures_47 o_size (fun v0 v1 v2 v3 v4 v5 => q1_readFigures_26 o_size Q k26 v0 v1 v2 v3 v4 v5) Q s0 x5 x7 x9 x10 o_row o_made → va_P (dC, dI) vwCl (wX1 cs ao o_row o_made o_size) H → va_D A (wX1 cs ao o_row o_made o_size) → va_S A s.heap H locs → lv_has ls 13 [(0, .ref (ao 0)), (5, .long x5), (7, .long x7), (9, .int x9), (10, .int x10)] → W p l e ({ frames := 1, cells := 0, slots := 0, locals := 21 } : Room) s m ([.ref (ao 0), .long a1, .long a3] : List Value).toArray below meth c H locs 0 0 (MQ below (va_Qi (fun (r : Int32) (u : (Nat → Int32) × (Nat → Int32)) => Q r u.1 u.2) (Bw (dC, dI) (KA cs) A (fun u : (Nat → Int32) × (Nat → Int32) => (wX1 cs ao u.1 u.2 o_size))) A) ([.ref (ao 0), .long a1, .long a3] : List Value).toArray s 0 0 A) (F0 m 47 ls [.int s0]) := by
        intro s0 x5 x7 x9 x10 o_row o_made H locs ls hq hP hD hS hl
        unfold q1_readFigures_47 at hq
        refine lv_istore (lv' := [(11, .int s0), (0, .ref (ao 0)), (5, .long x5), (7, .long x7), (9, .int x9), (10, .int x10)]) hx hb dX1_readFigures_47 hl (by decide) rfl (fun ls hl => ?_)
        refine lv_iload hx hb dX1_readFigures_49 (lv_at hl 0 rfl) ?_
        refine lv_if_eq (tgt := 59) hx hb dX1_readFigures_51 (by decide) (fun c30 => ?_) (fun c30 => ?_)
        · have hq := hq.1 c30
          refine lv_lload hx hb dX1_readFigures_59 (lv_at hl 3 rfl) ?_
          exact B61 x7 x5 x7 x9 x10 s0 o_row o_made _ _ _ hq hP hD hS (lv_sub hl [1, 2, 3, 4, 5, 0] rfl)
        · have hq := hq.2 c30
          refine lv_lload hx hb dX1_readFigures_54 (lv_at hl 2 rfl) ?_
          refine lv_goto (tgt := 61) hx hb dX1_readFigures_56 (by decide) ?_
          exact B61 x5 x5 x7 x9 x10 s0 o_row o_made _ _ _ hq hP hD hS (lv_sub hl [1, 2, 3, 4, 5, 0] rfl)
      unfold q1_readFigures_26 at hq
      refine lv_iload hx hb dX1_readFigures_26 (lv_at hl 4 rfl) ?_
      refine lv_aload_n hx hb dX1_readFigures_28 rfl (lv_at hl 0 rfl) ?_
      refine va_get (D := (dC, dI)) (ci := 1) (v := .int o_size) (C := RX1) (T := TX1) (N := 3) hx hb hts uwX1 hown hK hP 0 rfl rfl 2 (by decide) (hts _ fl_X1_24) (fun _ h9 => h9) rfl dX1_readFigures_29 ?_
      refine lv_icmp_ge (tgt := 127) hx hb dX1_readFigures_32 (by decide) (fun c31 => ?_) (fun c31 => ?_)
      · have hq := hq.1 c31
        exact B127 x5 x7 x9 o_row o_made _ _ _ hq hP hD hS (lv_sub hl [0, 1, 2, 3] rfl)
      · have hq := hq.2 c31
        refine lv_iload hx hb dX1_readFigures_35 (lv_at hl 4 rfl) ?_
        refine lv_bipush (v := (9 : Int32)) hx hb dX1_readFigures_37 (by decide) ?_
        refine lv_icmp_ge (tgt := 46) hx hb dX1_readFigures_39 (by decide) (fun c32 => ?_) (fun c32 => ?_)
        · have hq := hq.1 c32
          refine lv_iconst (v := (0 : Int32)) hx hb dX1_readFigures_46 (by decide) ?_
          exact B47 (0 : Int32) x5 x7 x9 x10 o_row o_made _ _ _ hq hP hD hS (lv_sub hl [0, 1, 2, 3, 4] rfl)
        · have hq := hq.2 c32
          refine lv_iconst (v := (1 : Int32)) hx hb dX1_readFigures_42 (by decide) ?_
          refine lv_goto (tgt := 47) hx hb dX1_readFigures_43 (by decide) ?_
          exact B47 (1 : Int32) x5 x7 x9 x10 o_row o_made _ _ _ hq hP hD hS (lv_sub hl [0, 1, 2, 3, 4] rfl)
  unfold q1_readFigures at hq
  refine lv_lload_n hx hb dX1_readFigures_0 rfl (lv_at hl 1 rfl) ?_
  refine lv_lconst (v := (0 : Int64)) hx hb dX1_readFigures_1 (by decide) ?_
  refine lc_lt (tgt := 12) hx hb dX1_readFigures_2 dX1_readFigures_3 (by decide) (fun c33 => ?_) (fun c33 => ?_)
  · have hq := hq.1 c33
    refine lv_iconst (v := (0 : Int32)) hx hb dX1_readFigures_12 (by decide) ?_
    exact W.zret (ty := .boolean) (v := (0 : Int32)) hx hb hr rfl (fun t ht hW => ⟨⟨(0 : Int32), (o_row, o_made), rfl, hq, Bw_mk (by rw [ht]; exact hP) (va_K.moved hW.alike hK) hD⟩, hS.F ht⟩) hS.2.2 dX1_readFigures_13
  · have hq := hq.2 c33
    refine lv_lload_n hx hb dX1_readFigures_6 rfl (lv_at hl 2 rfl) ?_
    refine lv_lconst (v := (0 : Int64)) hx hb dX1_readFigures_7 (by decide) ?_
    refine lc_ge (tgt := 14) hx hb dX1_readFigures_8 dX1_readFigures_9 (by decide) (fun c34 => ?_) (fun c34 => ?_)
    · have hq := hq.1 c34
      refine lv_lload_n hx hb dX1_readFigures_14 rfl (lv_at hl 1 rfl) ?_
      refine lv_lstore (lv' := [(5, .long a1), (0, .ref (ao 0)), (1, .long a1), (3, .long a3)]) hx hb dX1_readFigures_15 hl (by decide) rfl (fun ls hl => ?_)
      refine lv_lload_n hx hb dX1_readFigures_17 rfl (lv_at hl 3 rfl) ?_
      refine lv_lstore (lv' := [(7, .long a3), (5, .long a1), (0, .ref (ao 0)), (1, .long a1), (3, .long a3)]) hx hb dX1_readFigures_18 hl (by decide) rfl (fun ls hl => ?_)
      refine lv_iconst (v := (0 : Int32)) hx hb dX1_readFigures_20 (by decide) ?_
      refine lv_istore (lv' := [(9, .int (0 : Int32)), (7, .long a3), (5, .long a1), (0, .ref (ao 0)), (1, .long a1), (3, .long a3)]) hx hb dX1_readFigures_21 hl (by decide) rfl (fun ls hl => ?_)
      refine lv_iconst (v := (0 : Int32)) hx hb dX1_readFigures_23 (by decide) ?_
      refine lv_istore (lv' := [(10, .int (0 : Int32)), (9, .int (0 : Int32)), (7, .long a3), (5, .long a1), (0, .ref (ao 0)), (1, .long a1), (3, .long a3)]) hx hb dX1_readFigures_24 hl (by decide) rfl (fun ls hl => ?_)
      obtain ⟨kf, hq⟩ := hq
      exact B26 kf a1 a3 (0 : Int32) (0 : Int32) o_row o_made _ _ _ hq hP hD hS (lv_sub hl [4, 3, 2, 1, 0] rfl)
    · have hq := hq.2 c34
      refine lv_iconst (v := (0 : Int32)) hx hb dX1_readFigures_12 (by decide) ?_
      exact W.zret (ty := .boolean) (v := (0 : Int32)) hx hb hr rfl (fun t ht hW => ⟨⟨(0 : Int32), (o_row, o_made), rfl, hq, Bw_mk (by rw [ht]; exact hP) (va_K.moved hW.alike hK) hD⟩, hS.F ht⟩) hS.2.2 dX1_readFigures_13
set_option maxHeartbeats 4000000 in
set_option maxRecDepth 100000 in
theorem c1_exchange (l : Launch) (dC : Nat → ClassId) (dI : Nat → Nat → Nat) (cs : Nat → ClassId) (ao : Nat → Nat) (sz : Nat) (o_row : Nat → Int32) (o_made : Nat → Int32) (o_size : Int32) (a1 : Int32) (a2 : Int32) {Q : (Nat → Int32) → Prop} (hq : q1_exchange o_size o_row a1 a2 Q) : Met l yX1_exchange (.code yX1_exchange cX1_exchange 4 none :: gt) ({ frames := 1, cells := 0, slots := 0, locals := 21 } : Room) (va_Pc [.ref (ao 0), .int a1, .int a2] (Pw (dC, dI) (KA cs) (wX1 cs ao o_row o_made o_size) sz)) (va_Qv (fun (u : (Nat → Int32)) => Q u) (Bw (dC, dI) (KA cs) (va_A (wX1 cs ao o_row o_made o_size) sz) (fun u : (Nat → Int32) => (wX1 cs ao u o_made o_size))) (va_A (wX1 cs ao o_row o_made o_size) sz)) 0 0 (va_A (wX1 cs ao o_row o_made o_size) sz) := by
  refine Met.ofW (cc := cX1_exchange) (maxL := 4) (ret := none) (by decide) rfl ?_
  intro p e s m args below meth c s₁ B hml hv
  obtain ⟨rfl, hsz, hP, hK, hD0, hN⟩ := hv
  have hx := B.exec
  have hb := B.bytes
  have hr := B.returns
  have hts0 := atoms_spec (ws := (.code yX1_exchange cX1_exchange 4 none :: gt)) B.pre
  have hts : ∀ w ∈ gt, w.before _ s = true := fun w h => hts0 w (List.mem_cons_of_mem _ h)
  have hown : s.vm.findClass RX1 = some m.cls := findClass_of_methodNamed B.named
  have hlocks := B.notSynchronized
  subst hsz
  have hD := hD0.self (sz := s.heap.size)
  generalize hAe : va_A (wX1 cs ao o_row o_made o_size) s.heap.size = A at hD ⊢
  have hA : ∀ q : Nat, s.heap.size ≤ q → A q := fun q h => by rw [← hAe]; exact Or.inr h
  have hS : va_S A s.heap s.heap [] := va_S.rf
  have hl := lv_entry ([.ref (ao 0), .int a1, .int a2]) (n := 4) (Nat.le_of_ble_eq_true rfl)
  rw [lg_entry_eq]
  generalize (lg_sl ([.ref (ao 0), .int a1, .int a2]) ++ List.replicate (4 - (lg_sl ([.ref (ao 0), .int a1, .int a2])).length) Slot.unset).toArray = ls at hl ⊢
  have hl : lv_has ls 4 [(0, .ref (ao 0)), (1, .int a1), (2, .int a2)] := hl
  unfold q1_exchange at hq
  refine lv_aload_n hx hb dX1_exchange_0 rfl (lv_at hl 0 rfl) ?_
  refine lv_iload_n hx hb dX1_exchange_1 rfl (lv_at hl 1 rfl) ?_
  refine roi (runV ⟨hx, hb, hml, hown, hts⟩ wf_X1_holds ml_X1_28 (c1_holds l dC dI cs ao o_row o_made o_size a1 hq) ⟨⟨rfl, rfl⟩, by decide, by decide⟩ (preR hP hK hN) hK hP rfl 0 rfl rfl hl.1 rfl (Nat.le_of_ble_eq_true rfl) dX1_exchange_2 ⟨(Nat.le_of_ble_eq_true rfl), (Nat.le_of_ble_eq_true rfl)⟩) (fun r9 hq => ?_)
  refine lv_if_eq (tgt := 42) hx hb dX1_exchange_5 (by decide) (fun c10 => ?_) (fun c10 => ?_)
  · have hq := hq.1 c10
    exact W.vret hx hb hr (fun t ht hW => ⟨⟨o_row, rfl, hq, Bw_mk (by rw [ht]; exact hP) (va_K.moved hW.alike hK) hD⟩, hS.F ht⟩) hS.2.2 dX1_exchange_42
  · have hq := hq.2 c10
    refine lv_aload_n hx hb dX1_exchange_8 rfl (lv_at hl 0 rfl) ?_
    refine lv_iload_n hx hb dX1_exchange_9 rfl (lv_at hl 2 rfl) ?_
    refine roi (runV ⟨hx, hb, hml, hown, hts⟩ wf_X1_holds ml_X1_28 (c1_holds l dC dI cs ao o_row o_made o_size a2 hq) ⟨⟨rfl, rfl⟩, by decide, by decide⟩ (preR hP hK hN) hK hP rfl 0 rfl rfl hl.1 rfl (Nat.le_of_ble_eq_true rfl) dX1_exchange_10 ⟨(Nat.le_of_ble_eq_true rfl), (Nat.le_of_ble_eq_true rfl)⟩) (fun r11 hq => ?_)
    refine lv_if_eq (tgt := 42) hx hb dX1_exchange_13 (by decide) (fun c12 => ?_) (fun c12 => ?_)
    · have hq := hq.1 c12
      exact W.vret hx hb hr (fun t ht hW => ⟨⟨o_row, rfl, hq, Bw_mk (by rw [ht]; exact hP) (va_K.moved hW.alike hK) hD⟩, hS.F ht⟩) hS.2.2 dX1_exchange_42
    · have hq := hq.2 c12
      refine lv_aload_n hx hb dX1_exchange_16 rfl (lv_at hl 0 rfl) ?_
      refine va_get (D := (dC, dI)) (ci := 1) (v := .ref (ao 1)) (C := RX1) (T := TX1) (N := 3) hx hb hts uwX1 hown hK hP 0 rfl rfl 0 (by decide) (hts _ fl_X1_9) (fun _ h9 => h9) rfl dX1_exchange_17 ?_
      refine lv_iload_n hx hb dX1_exchange_20 rfl (lv_at hl 1 rfl) ?_
      obtain ⟨i13, hq⟩ := hq
      refine va_iald hx hb hK hP 1 0 rfl rfl i13 dX1_exchange_21 ?_
      refine lv_istore_n (lv' := [(3, .int (o_row a1.toNatClampNeg)), (0, .ref (ao 0)), (1, .int a1), (2, .int a2)]) hx hb dX1_exchange_22 rfl hl (by decide) rfl (fun ls hl => ?_)
      refine lv_aload_n hx hb dX1_exchange_23 rfl (lv_at hl 1 rfl) ?_
      refine va_get (D := (dC, dI)) (ci := 1) (v := .ref (ao 1)) (C := RX1) (T := TX1) (N := 3) hx hb hts uwX1 hown hK hP 0 rfl rfl 0 (by decide) (hts _ fl_X1_9) (fun _ h9 => h9) rfl dX1_exchange_24 ?_
      refine lv_iload_n hx hb dX1_exchange_27 rfl (lv_at hl 2 rfl) ?_
      refine lv_aload_n hx hb dX1_exchange_28 rfl (lv_at hl 1 rfl) ?_
      refine va_get (D := (dC, dI)) (ci := 1) (v := .ref (ao 1)) (C := RX1) (T := TX1) (N := 3) hx hb hts uwX1 hown hK hP 0 rfl rfl 0 (by decide) (hts _ fl_X1_9) (fun _ h9 => h9) rfl dX1_exchange_29 ?_
      refine lv_iload_n hx hb dX1_exchange_32 rfl (lv_at hl 3 rfl) ?_
      obtain ⟨i14, hq⟩ := hq
      refine va_iald hx hb hK hP 1 0 rfl rfl i14 dX1_exchange_33 ?_
      obtain ⟨i15, hq⟩ := hq
      refine va_iast hx hb hK hP hD hS 1 0 rfl rfl i15 dX1_exchange_34 (fun H locs hP hD hS => ?_)
      have hP : va_P (dC, dI) vwCl (wX1 cs ao (upd o_row a1.toNatClampNeg (o_row a2.toNatClampNeg)) o_made o_size) H := hP
      have hD : va_D A (wX1 cs ao (upd o_row a1.toNatClampNeg (o_row a2.toNatClampNeg)) o_made o_size) := hD
      refine lv_aload_n hx hb dX1_exchange_35 rfl (lv_at hl 1 rfl) ?_
      refine va_get (D := (dC, dI)) (ci := 1) (v := .ref (ao 1)) (C := RX1) (T := TX1) (N := 3) hx hb hts uwX1 hown hK hP 0 rfl rfl 0 (by decide) (hts _ fl_X1_9) (fun _ h9 => h9) rfl dX1_exchange_36 ?_
      refine lv_iload_n hx hb dX1_exchange_39 rfl (lv_at hl 3 rfl) ?_
      refine lv_iload_n hx hb dX1_exchange_40 rfl (lv_at hl 0 rfl) ?_
      obtain ⟨i16, hq⟩ := hq
      refine va_iast hx hb hK hP hD hS 1 0 rfl rfl i16 dX1_exchange_41 (fun H locs hP hD hS => ?_)
      have hP : va_P (dC, dI) vwCl (wX1 cs ao (upd (upd o_row a1.toNatClampNeg (o_row a2.toNatClampNeg)) a2.toNatClampNeg (o_row a1.toNatClampNeg)) o_made o_size) H := hP
      have hD : va_D A (wX1 cs ao (upd (upd o_row a1.toNatClampNeg (o_row a2.toNatClampNeg)) a2.toNatClampNeg (o_row a1.toNatClampNeg)) o_made o_size) := hD
      exact W.vret hx hb hr (fun t ht hW => ⟨⟨(upd (upd o_row a1.toNatClampNeg (o_row a2.toNatClampNeg)) a2.toNatClampNeg (o_row a1.toNatClampNeg)), rfl, hq, Bw_mk (by rw [ht]; exact hP) (va_K.moved hW.alike hK) hD⟩, hS.F ht⟩) hS.2.2 dX1_exchange_42
set_option maxHeartbeats 4000000 in
set_option maxRecDepth 100000 in
theorem c1_copyFrom (l : Launch) (dC : Nat → ClassId) (dI : Nat → Nat → Nat) (cs : Nat → ClassId) (ao : Nat → Nat) (po : Nat → Nat) (sz : Nat) (o_row : Nat → Int32) (o_made : Nat → Int32) (o_size : Int32) (p_row : Nat → Int32) (p_made : Nat → Int32) (p_size : Int32) {Q : (Nat → Int32) → Prop} (hq : q1_copyFrom o_size p_row o_row Q) : Met l yX1_copyFrom (.code yX1_copyFrom cX1_copyFrom 3 none :: gt) ({ frames := 0, cells := 0, slots := 0, locals := 0 } : Room) (va_Pc [.ref (ao 0), .ref (po 0)] (Pw2 (dC, dI) (KA cs) (wX1 cs ao o_row o_made o_size) (wX1p cs po p_row p_made p_size) sz)) (va_Qv (fun (u : (Nat → Int32)) => Q u) (Bw (dC, dI) (KA cs) (va_A (wX1 cs ao o_row o_made o_size) sz) (fun u : (Nat → Int32) => (wX1 cs ao u o_made o_size))) (va_A (wX1 cs ao o_row o_made o_size) sz)) 0 0 (va_A (wX1 cs ao o_row o_made o_size) sz) := by
  refine Met.ofW (cc := cX1_copyFrom) (maxL := 3) (ret := none) (by decide) rfl ?_
  intro p e s m args below meth c s₁ B hml hv
  obtain ⟨rfl, hsz, hP0, hK, hD1, hN⟩ := hv
  have hP := va_P_l hP0
  have hO := va_P_r hP0
  have hD0 := va_D_l hD1
  have hDO := va_D_r hD1
  have hx := B.exec
  have hb := B.bytes
  have hr := B.returns
  have hts0 := atoms_spec (ws := (.code yX1_copyFrom cX1_copyFrom 3 none :: gt)) B.pre
  have hts : ∀ w ∈ gt, w.before _ s = true := fun w h => hts0 w (List.mem_cons_of_mem _ h)
  have hown : s.vm.findClass RX1 = some m.cls := findClass_of_methodNamed B.named
  have hlocks := B.notSynchronized
  subst hsz
  have hD := hD0.self (sz := s.heap.size)
  have hNA := na_of hP0 hD1
  generalize hAe : va_A (wX1 cs ao o_row o_made o_size) s.heap.size = A at hD hNA ⊢
  have hA : ∀ q : Nat, s.heap.size ≤ q → A q := fun q h => by rw [← hAe]; exact Or.inr h
  have hS : va_S A s.heap s.heap [] := va_S.rf
  have hl := lv_entry ([.ref (ao 0), .ref (po 0)]) (n := 3) (Nat.le_of_ble_eq_true rfl)
  rw [lg_entry_eq]
  generalize (lg_sl ([.ref (ao 0), .ref (po 0)]) ++ List.replicate (3 - (lg_sl ([.ref (ao 0), .ref (po 0)])).length) Slot.unset).toArray = ls at hl ⊢
  have hl : lv_has ls 3 [(0, .ref (ao 0)), (1, .ref (po 0))] := hl
  have B2 : ∀ (k2 : Nat) (x2 : Int32) (o_row : Nat → Int32) (H : Heap) (locs : List Loc) (ls : Array Slot), q1_copyFrom_2 o_size p_row Q k2 x2 o_row → va_P (dC, dI) vwCl (wX1 cs ao o_row o_made o_size) H → va_D A (wX1 cs ao o_row o_made o_size) → va_S A s.heap H locs → lv_has ls 3 [(0, .ref (ao 0)), (1, .ref (po 0)), (2, .int x2)] → W p l e ({ frames := 0, cells := 0, slots := 0, locals := 0 } : Room) s m ([.ref (ao 0), .ref (po 0)] : List Value).toArray below meth c H locs 0 0 (MQ below (va_Qv (fun (u : (Nat → Int32)) => Q u) (Bw (dC, dI) (KA cs) A (fun u : (Nat → Int32) => (wX1 cs ao u o_made o_size))) A) ([.ref (ao 0), .ref (po 0)] : List Value).toArray s 0 0 A) (F0 m 2 ls []) := by
    intro k2
    induction k2 with
    | zero => intro x2 o_row H locs ls hq; exact False.elim hq
    | succ k2 ih2 =>
      intro x2 o_row H locs ls hq hP hD hS hl
      unfold q1_copyFrom_2 at hq
      refine lv_iload_n hx hb dX1_copyFrom_2 rfl (lv_at hl 2 rfl) ?_
      refine lv_aload_n hx hb dX1_copyFrom_3 rfl (lv_at hl 0 rfl) ?_
      refine va_get (D := (dC, dI)) (ci := 1) (v := .int o_size) (C := RX1) (T := TX1) (N := 3) hx hb hts uwX1 hown hK hP 0 rfl rfl 2 (by decide) (hts _ fl_X1_24) (fun _ h9 => h9) rfl dX1_copyFrom_4 ?_
      refine lv_icmp_ge (tgt := 28) hx hb dX1_copyFrom_7 (by decide) (fun c4 => ?_) (fun c4 => ?_)
      · have hq := hq.1 c4
        exact W.vret hx hb hr (fun t ht hW => ⟨⟨o_row, rfl, hq, Bw_mk (by rw [ht]; exact hP) (va_K.moved hW.alike hK) hD⟩, hS.F ht⟩) hS.2.2 dX1_copyFrom_28
      · have hq := hq.2 c4
        refine lv_aload_n hx hb dX1_copyFrom_10 rfl (lv_at hl 0 rfl) ?_
        refine va_get (D := (dC, dI)) (ci := 1) (v := .ref (ao 1)) (C := RX1) (T := TX1) (N := 3) hx hb hts uwX1 hown hK hP 0 rfl rfl 0 (by decide) (hts _ fl_X1_9) (fun _ h9 => h9) rfl dX1_copyFrom_11 ?_
        refine lv_iload_n hx hb dX1_copyFrom_14 rfl (lv_at hl 2 rfl) ?_
        refine lv_aload_n hx hb dX1_copyFrom_15 rfl (lv_at hl 1 rfl) ?_
        refine va_get (D := (dC, dI)) (ci := 1) (v := .ref (po 1)) (C := RX1) (T := TX1) (N := 3) hx hb hts uwX1 hown hK (ro_at hO hNA hS) 0 rfl rfl 0 (by decide) (hts _ fl_X1_9) (fun _ h9 => h9) rfl dX1_copyFrom_16 ?_
        refine lv_iload_n hx hb dX1_copyFrom_19 rfl (lv_at hl 2 rfl) ?_
        obtain ⟨i5, hq⟩ := hq
        refine va_iald hx hb hK (ro_at hO hNA hS) 1 0 rfl rfl i5 dX1_copyFrom_20 ?_
        obtain ⟨i6, hq⟩ := hq
        refine va_iast hx hb hK hP hD hS 1 0 rfl rfl i6 dX1_copyFrom_21 (fun H locs hP hD hS => ?_)
        have hP : va_P (dC, dI) vwCl (wX1 cs ao (upd o_row x2.toNatClampNeg (p_row x2.toNatClampNeg)) o_made o_size) H := hP
        have hD : va_D A (wX1 cs ao (upd o_row x2.toNatClampNeg (p_row x2.toNatClampNeg)) o_made o_size) := hD
        refine lv_iinc (v := (x2 + (1 : Int32))) (lv' := [(2, .int (x2 + (1 : Int32))), (0, .ref (ao 0)), (1, .ref (po 0))]) hx hb dX1_copyFrom_22 hl (k := 2) rfl (by rfl) (by decide) rfl (fun ls hl => ?_)
        refine lv_goto (tgt := 2) hx hb dX1_copyFrom_25 (by decide) ?_
        exact ih2 (x2 + (1 : Int32)) (upd o_row x2.toNatClampNeg (p_row x2.toNatClampNeg)) _ _ _ hq hP hD hS (lv_sub hl [1, 2, 0] rfl)
  unfold q1_copyFrom at hq
  refine lv_iconst (v := (0 : Int32)) hx hb dX1_copyFrom_0 (by decide) ?_
  refine lv_istore_n (lv' := [(2, .int (0 : Int32)), (0, .ref (ao 0)), (1, .ref (po 0))]) hx hb dX1_copyFrom_1 rfl hl (by decide) rfl (fun ls hl => ?_)
  obtain ⟨kf, hq⟩ := hq
  exact B2 kf (0 : Int32) o_row _ _ _ hq hP hD hS (lv_sub hl [1, 2, 0] rfl)
set_option maxHeartbeats 4000000 in
set_option maxRecDepth 100000 in
theorem c1_goOnBy (l : Launch) (dC : Nat → ClassId) (dI : Nat → Nat → Nat) (cs : Nat → ClassId) (ao : Nat → Nat) (po : Nat → Nat) (sz : Nat) (o_row : Nat → Int32) (o_made : Nat → Int32) (o_size : Int32) (p_row : Nat → Int32) (p_made : Nat → Int32) (p_size : Int32) {Q : (Nat → Int32) → Prop} (hq : q1_goOnBy o_size p_row p_size o_row Q) : Met l yX1_goOnBy (.code yX1_goOnBy cX1_goOnBy 3 none :: gt) ({ frames := 2, cells := 0, slots := 0, locals := 42 } : Room) (va_Pc [.ref (ao 0), .ref (po 0)] (Pw2 (dC, dI) (KA cs) (wX1 cs ao o_row o_made o_size) (wX1p cs po p_row p_made p_size) sz)) (va_Qv (fun (u : (Nat → Int32)) => Q u) (Bw (dC, dI) (KA cs) (va_A (wX1 cs ao o_row o_made o_size) sz) (fun u : (Nat → Int32) => (wX1 cs ao u o_made o_size))) (va_A (wX1 cs ao o_row o_made o_size) sz)) 0 0 (va_A (wX1 cs ao o_row o_made o_size) sz) := by
  refine Met.ofW (cc := cX1_goOnBy) (maxL := 3) (ret := none) (by decide) rfl ?_
  intro p e s m args below meth c s₁ B hml hv
  obtain ⟨rfl, hsz, hP0, hK, hD1, hN⟩ := hv
  have hP := va_P_l hP0
  have hO := va_P_r hP0
  have hD0 := va_D_l hD1
  have hDO := va_D_r hD1
  have hx := B.exec
  have hb := B.bytes
  have hr := B.returns
  have hts0 := atoms_spec (ws := (.code yX1_goOnBy cX1_goOnBy 3 none :: gt)) B.pre
  have hts : ∀ w ∈ gt, w.before _ s = true := fun w h => hts0 w (List.mem_cons_of_mem _ h)
  have hown : s.vm.findClass RX1 = some m.cls := findClass_of_methodNamed B.named
  have hlocks := B.notSynchronized
  subst hsz
  have hD := hD0.self (sz := s.heap.size)
  have hNA := na_of hP0 hD1
  generalize hAe : va_A (wX1 cs ao o_row o_made o_size) s.heap.size = A at hD hNA ⊢
  have hA : ∀ q : Nat, s.heap.size ≤ q → A q := fun q h => by rw [← hAe]; exact Or.inr h
  have hS : va_S A s.heap s.heap [] := va_S.rf
  have hl := lv_entry ([.ref (ao 0), .ref (po 0)]) (n := 3) (Nat.le_of_ble_eq_true rfl)
  rw [lg_entry_eq]
  generalize (lg_sl ([.ref (ao 0), .ref (po 0)]) ++ List.replicate (3 - (lg_sl ([.ref (ao 0), .ref (po 0)])).length) Slot.unset).toArray = ls at hl ⊢
  have hl : lv_has ls 3 [(0, .ref (ao 0)), (1, .ref (po 0))] := hl
  have B2 : ∀ (k2 : Nat) (x2 : Int32) (o_row : Nat → Int32) (H : Heap) (locs : List Loc) (ls : Array Slot), q1_goOnBy_2 o_size p_row p_size Q k2 x2 o_row → va_P (dC, dI) vwCl (wX1 cs ao o_row o_made o_size) H → va_D A (wX1 cs ao o_row o_made o_size) → va_S A s.heap H locs → lv_has ls 3 [(0, .ref (ao 0)), (1, .ref (po 0)), (2, .int x2)] → W p l e ({ frames := 2, cells := 0, slots := 0, locals := 42 } : Room) s m ([.ref (ao 0), .ref (po 0)] : List Value).toArray below meth c H locs 0 0 (MQ below (va_Qv (fun (u : (Nat → Int32)) => Q u) (Bw (dC, dI) (KA cs) A (fun u : (Nat → Int32) => (wX1 cs ao u o_made o_size))) A) ([.ref (ao 0), .ref (po 0)] : List Value).toArray s 0 0 A) (F0 m 2 ls []) := by
    intro k2
    induction k2 with
    | zero => intro x2 o_row H locs ls hq; exact False.elim hq
    | succ k2 ih2 =>
      intro x2 o_row H locs ls hq hP hD hS hl
      unfold q1_goOnBy_2 at hq
      refine lv_iload_n hx hb dX1_goOnBy_2 rfl (lv_at hl 2 rfl) ?_
      refine lv_aload_n hx hb dX1_goOnBy_3 rfl (lv_at hl 0 rfl) ?_
      refine va_get (D := (dC, dI)) (ci := 1) (v := .int o_size) (C := RX1) (T := TX1) (N := 3) hx hb hts uwX1 hown hK hP 0 rfl rfl 2 (by decide) (hts _ fl_X1_24) (fun _ h9 => h9) rfl dX1_goOnBy_4 ?_
      refine lv_icmp_ge (tgt := 32) hx hb dX1_goOnBy_7 (by decide) (fun c5 => ?_) (fun c5 => ?_)
      · have hq := hq.1 c5
        exact W.vret hx hb hr (fun t ht hW => ⟨⟨o_row, rfl, hq, Bw_mk (by rw [ht]; exact hP) (va_K.moved hW.alike hK) hD⟩, hS.F ht⟩) hS.2.2 dX1_goOnBy_32
      · have hq := hq.2 c5
        refine lv_aload_n hx hb dX1_goOnBy_10 rfl (lv_at hl 0 rfl) ?_
        refine va_get (D := (dC, dI)) (ci := 1) (v := .ref (ao 1)) (C := RX1) (T := TX1) (N := 3) hx hb hts uwX1 hown hK hP 0 rfl rfl 0 (by decide) (hts _ fl_X1_9) (fun _ h9 => h9) rfl dX1_goOnBy_11 ?_
        refine lv_iload_n hx hb dX1_goOnBy_14 rfl (lv_at hl 2 rfl) ?_
        refine lv_aload_n hx hb dX1_goOnBy_15 rfl (lv_at hl 1 rfl) ?_
        refine lv_aload_n hx hb dX1_goOnBy_16 rfl (lv_at hl 0 rfl) ?_
        refine va_get (D := (dC, dI)) (ci := 1) (v := .ref (ao 1)) (C := RX1) (T := TX1) (N := 3) hx hb hts uwX1 hown hK hP 0 rfl rfl 0 (by decide) (hts _ fl_X1_9) (fun _ h9 => h9) rfl dX1_goOnBy_17 ?_
        refine lv_iload_n hx hb dX1_goOnBy_20 rfl (lv_at hl 2 rfl) ?_
        obtain ⟨i6, hq⟩ := hq
        refine va_iald hx hb hK hP 1 0 rfl rfl i6 dX1_goOnBy_21 ?_
        refine roi (runV ⟨hx, hb, hml, hown, hts⟩ wf_X1_follow ml_X1_37 (c1_follow l dC dI cs po p_row p_made p_size (o_row x2.toNatClampNeg) hq) ⟨⟨rfl, rfl⟩, by decide, by decide⟩ (preR ((ro_at hO hNA hS).sub (ws' := wX1 cs po p_row p_made p_size) [0, 1, 2] rfl) hK hN) hK (ro_at hO hNA hS) rfl 0 rfl rfl hl.1 rfl (Nat.le_of_ble_eq_true rfl) dX1_goOnBy_22 ⟨(Nat.le_of_ble_eq_true rfl), (Nat.le_of_ble_eq_true rfl)⟩) (fun r7 hq => ?_)
        obtain ⟨i8, hq⟩ := hq
        refine va_iast hx hb hK hP hD hS 1 0 rfl rfl i8 dX1_goOnBy_25 (fun H locs hP hD hS => ?_)
        have hP : va_P (dC, dI) vwCl (wX1 cs ao (upd o_row x2.toNatClampNeg r7) o_made o_size) H := hP
        have hD : va_D A (wX1 cs ao (upd o_row x2.toNatClampNeg r7) o_made o_size) := hD
        refine lv_iinc (v := (x2 + (1 : Int32))) (lv' := [(2, .int (x2 + (1 : Int32))), (0, .ref (ao 0)), (1, .ref (po 0))]) hx hb dX1_goOnBy_26 hl (k := 2) rfl (by rfl) (by decide) rfl (fun ls hl => ?_)
        refine lv_goto (tgt := 2) hx hb dX1_goOnBy_29 (by decide) ?_
        exact ih2 (x2 + (1 : Int32)) (upd o_row x2.toNatClampNeg r7) _ _ _ hq hP hD hS (lv_sub hl [1, 2, 0] rfl)
  unfold q1_goOnBy at hq
  refine lv_iconst (v := (0 : Int32)) hx hb dX1_goOnBy_0 (by decide) ?_
  refine lv_istore_n (lv' := [(2, .int (0 : Int32)), (0, .ref (ao 0)), (1, .ref (po 0))]) hx hb dX1_goOnBy_1 rfl hl (by decide) rfl (fun ls hl => ?_)
  obtain ⟨kf, hq⟩ := hq
  exact B2 kf (0 : Int32) o_row _ _ _ hq hP hD hS (lv_sub hl [1, 2, 0] rfl)
