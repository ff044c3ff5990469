set_option maxHeartbeats 4000000 in
set_option maxRecDepth 100000 in
theorem c1_numberOf (l : Launch) (dC : Nat → ClassId) (dI : Nat → Nat → Nat) (cs : Nat → ClassId) (ao : Nat → Nat) (sz : Nat) (o_row : Nat → Int32) (o_made : Nat → Int32) (o_size : Int32) (a1 : Int32) {Q : Int32 → (Nat → Int32) → Prop} (hq : q1_numberOf o_row o_size o_made a1 Q) : Met l yX1_numberOf (.code yX1_numberOf cX1_numberOf 2 (some .int) :: gt) ({ frames := 4, cells := 0, slots := 0, locals := 87 } : Room) (va_Pc [.ref (ao 0), .int a1] (Pw (dC, dI) (KA cs) (wX1 cs ao o_row o_made o_size) sz)) (va_Qi (fun (r : Int32) (u : (Nat → Int32)) => Q r u) (Bw (dC, dI) (KA cs) (va_A (wX1 cs ao o_row o_made o_size) sz) (fun u : (Nat → Int32) => (wX1 cs ao o_row u o_size))) (va_A (wX1 cs ao o_row o_made o_size) sz)) 0 0 (va_A (wX1 cs ao o_row o_made o_size) sz) := by
  refine Met.ofW (cc := cX1_numberOf) (maxL := 2) (ret := (some .int)) (by decide) rfl ?_
  intro p e s m args below meth c s₁ B hml hv
  obtain ⟨rfl, hsz, hP, hK, hD0, hN⟩ := hv
  have hx := B.exec
  have hb := B.bytes
  have hr := B.returns
  have hts0 := atoms_spec (ws := (.code yX1_numberOf cX1_numberOf 2 (some .int) :: gt)) B.pre
  have hts : ∀ w ∈ gt, w.before _ s = true := fun w h => hts0 w (List.mem_cons_of_mem _ h)
  have hown : s.vm.findClass RX1 = some m.cls := findClass_of_methodNamed B.named
  have hlocks := B.notSynchronized
  subst hsz
  have hD := hD0.self (sz := s.heap.size)
  generalize hAe : va_A (wX1 cs ao o_row o_made o_size) s.heap.size = A at hD ⊢
  have hA : ∀ q : Nat, s.heap.size ≤ q → A q := fun q h => by rw [← hAe]; exact Or.inr h
  have hS : va_S A s.heap s.heap [] := va_S.rf
  have hl := lv_entry ([.ref (ao 0), .int a1]) (n := 2) (Nat.le_of_ble_eq_true rfl)
  rw [lg_entry_eq]
  generalize (lg_sl ([.ref (ao 0), .int a1]) ++ List.replicate (2 - (lg_sl ([.ref (ao 0), .int a1])).length) Slot.unset).toArray = ls at hl ⊢
  have hl : lv_has ls 2 [(0, .ref (ao 0)), (1, .int a1)] := hl
  unfold q1_numberOf at hq
  refine lv_iload_n hx hb dX1_numberOf_0 rfl (lv_at hl 1 rfl) ?_
  by_cases c19 : a1 = (0 : Int32)
  · have hq := hq.1 c19
    refine lv_tableIn (tgt := 48) hx hb dX1_numberOf_1 (by rw [c19]; decide) (by rw [c19]; decide) (by rw [c19]; rfl) (by decide) ?_
    refine lv_aload_n hx hb dX1_numberOf_48 rfl (lv_at hl 0 rfl) ?_
    refine roi (runV ⟨hx, hb, hml, hown, hts⟩ wf_X1_rounds ml_X1_54 (c1_rounds l dC dI cs ao o_row o_made o_size  hq) ⟨⟨rfl, rfl⟩, by decide, by decide⟩ (preR hP hK hN) hK hP rfl 0 rfl rfl hl.1 rfl (Nat.le_of_ble_eq_true rfl) dX1_numberOf_49 ⟨(Nat.le_of_ble_eq_true rfl), (Nat.le_of_ble_eq_true rfl)⟩) (fun r20 hq => ?_)
    exact W.iret (v := r20) hx hb hr (fun t ht hW => ⟨⟨r20, o_made, rfl, hq, Bw_mk (by rw [ht]; exact hP) (va_K.moved hW.alike hK) hD⟩, hS.F ht⟩) hS.2.2 dX1_numberOf_52
  have hq := hq.2 c19
  by_cases c21 : a1 = (1 : Int32)
  · have hq := hq.1 c21
    refine lv_tableIn (tgt := 53) hx hb dX1_numberOf_1 (by rw [c21]; decide) (by rw [c21]; decide) (by rw [c21]; rfl) (by decide) ?_
    refine lv_aload_n hx hb dX1_numberOf_53 rfl (lv_at hl 0 rfl) ?_
    refine roi (runV ⟨hx, hb, hml, hown, hts⟩ wf_X1_records ml_X1_58 (c1_records l dC dI cs ao o_row o_made o_size  hq) ⟨⟨rfl, rfl⟩, by decide, by decide⟩ (preR hP hK hN) hK hP rfl 0 rfl rfl hl.1 rfl (Nat.le_of_ble_eq_true rfl) dX1_numberOf_54 ⟨(Nat.le_of_ble_eq_true rfl), (Nat.le_of_ble_eq_true rfl)⟩) (fun r22 hq => ?_)
    exact W.iret (v := r22) hx hb hr (fun t ht hW => ⟨⟨r22, o_made, rfl, hq, Bw_mk (by rw [ht]; exact hP) (va_K.moved hW.alike hK) hD⟩, hS.F ht⟩) hS.2.2 dX1_numberOf_57
  have hq := hq.2 c21
  by_cases c23 : a1 = (2 : Int32)
  · have hq := hq.1 c23
    refine lv_tableIn (tgt := 58) hx hb dX1_numberOf_1 (by rw [c23]; decide) (by rw [c23]; decide) (by rw [c23]; rfl) (by decide) ?_
    refine lv_aload_n hx hb dX1_numberOf_58 rfl (lv_at hl 0 rfl) ?_
    refine roi (runV ⟨hx, hb, hml, hown, hts⟩ wf_X1_rises ml_X1_61 (c1_rises l dC dI cs ao o_row o_made o_size  hq) ⟨⟨rfl, rfl⟩, by decide, by decide⟩ (preR hP hK hN) hK hP rfl 0 rfl rfl hl.1 rfl (Nat.le_of_ble_eq_true rfl) dX1_numberOf_59 ⟨(Nat.le_of_ble_eq_true rfl), (Nat.le_of_ble_eq_true rfl)⟩) (fun r24 hq => ?_)
    exact W.iret (v := r24) hx hb hr (fun t ht hW => ⟨⟨r24, o_made, rfl, hq, Bw_mk (by rw [ht]; exact hP) (va_K.moved hW.alike hK) hD⟩, hS.F ht⟩) hS.2.2 dX1_numberOf_62
  have hq := hq.2 c23
  by_cases c25 : a1 = (3 : Int32)
  · have hq := hq.1 c25
    refine lv_tableIn (tgt := 63) hx hb dX1_numberOf_1 (by rw [c25]; decide) (by rw [c25]; decide) (by rw [c25]; rfl) (by decide) ?_
    refine lv_aload_n hx hb dX1_numberOf_63 rfl (lv_at hl 0 rfl) ?_
    refine roi (runV ⟨hx, hb, hml, hown, hts⟩ wf_X1_still ml_X1_64 (c1_still l dC dI cs ao o_row o_made o_size  hq) ⟨⟨rfl, rfl⟩, by decide, by decide⟩ (preR hP hK hN) hK hP rfl 0 rfl rfl hl.1 rfl (Nat.le_of_ble_eq_true rfl) dX1_numberOf_64 ⟨(Nat.le_of_ble_eq_true rfl), (Nat.le_of_ble_eq_true rfl)⟩) (fun r26 hq => ?_)
    exact W.iret (v := r26) hx hb hr (fun t ht hW => ⟨⟨r26, o_made, rfl, hq, Bw_mk (by rw [ht]; exact hP) (va_K.moved hW.alike hK) hD⟩, hS.F ht⟩) hS.2.2 dX1_numberOf_67
  have hq := hq.2 c25
  by_cases c27 : a1 = (4 : Int32)
  · have hq := hq.1 c27
    refine lv_tableIn (tgt := 68) hx hb dX1_numberOf_1 (by rw [c27]; decide) (by rw [c27]; decide) (by rw [c27]; rfl) (by decide) ?_
    refine lv_aload_n hx hb dX1_numberOf_68 rfl (lv_at hl 0 rfl) ?_
    refine roi (runV ⟨hx, hb, hml, hown, hts⟩ wf_X1_longestRound ml_X1_67 (c1_longestRound l dC dI cs ao o_row o_made o_size  hq) ⟨⟨rfl, rfl⟩, by decide, by decide⟩ (preR hP hK hN) hK hP rfl 0 rfl rfl hl.1 rfl (Nat.le_of_ble_eq_true rfl) dX1_numberOf_69 ⟨(Nat.le_of_ble_eq_true rfl), (Nat.le_of_ble_eq_true rfl)⟩) (fun r28 hq => ?_)
    exact W.iret (v := r28) hx hb hr (fun t ht hW => ⟨⟨r28, o_made, rfl, hq, Bw_mk (by rw [ht]; exact hP) (va_K.moved hW.alike hK) hD⟩, hS.F ht⟩) hS.2.2 dX1_numberOf_72
  have hq := hq.2 c27
  by_cases c29 : a1 = (5 : Int32)
  · have hq := hq.1 c29
    refine lv_tableIn (tgt := 73) hx hb dX1_numberOf_1 (by rw [c29]; decide) (by rw [c29]; decide) (by rw [c29]; rfl) (by decide) ?_
    refine lv_aload_n hx hb dX1_numberOf_73 rfl (lv_at hl 0 rfl) ?_
    refine roi (runV ⟨hx, hb, hml, hown, hts⟩ wf_X1_pairsOut ml_X1_70 (c1_pairsOut l dC dI cs ao o_row o_made o_size  hq) ⟨⟨rfl, rfl⟩, by decide, by decide⟩ (preR hP hK hN) hK hP rfl 0 rfl rfl hl.1 rfl (Nat.le_of_ble_eq_true rfl) dX1_numberOf_74 ⟨(Nat.le_of_ble_eq_true rfl), (Nat.le_of_ble_eq_true rfl)⟩) (fun r30 hq => ?_)
    exact W.iret (v := r30) hx hb hr (fun t ht hW => ⟨⟨r30, o_made, rfl, hq, Bw_mk (by rw [ht]; exact hP) (va_K.moved hW.alike hK) hD⟩, hS.F ht⟩) hS.2.2 dX1_numberOf_77
  have hq := hq.2 c29
  by_cases c31 : a1 = (6 : Int32)
  · have hq := hq.1 c31
    refine lv_tableIn (tgt := 78) hx hb dX1_numberOf_1 (by rw [c31]; decide) (by rw [c31]; decide) (by rw [c31]; rfl) (by decide) ?_
    refine lv_aload_n hx hb dX1_numberOf_78 rfl (lv_at hl 0 rfl) ?_
    refine swi (runV ⟨hx, hb, hml, hown, hts⟩ wf_X1_longestRise ml_X1_73 (c1_longestRise l dC dI cs ao _ o_row o_made o_size  hq) ⟨⟨rfl, rfl⟩, by decide, by decide⟩ (preW hP hK hN hD) hK hP rfl 0 rfl rfl hl.1 rfl (Nat.le_of_ble_eq_true rfl) dX1_numberOf_79 ⟨(Nat.le_of_ble_eq_true rfl), (Nat.le_of_ble_eq_true rfl)⟩) hD hS hA (fun r32 o_made_33 H locs hq hP hD hS => ?_)
    have hP : va_P (dC, dI) vwCl (wX1 cs ao o_row o_made_33 o_size) H := hP
    have hD : va_D A (wX1 cs ao o_row o_made_33 o_size) := hD
    exact W.iret (v := r32) hx hb hr (fun t ht hW => ⟨⟨r32, o_made_33, rfl, hq, Bw_mk (by rw [ht]; exact hP) (va_K.moved hW.alike hK) hD⟩, hS.F ht⟩) hS.2.2 dX1_numberOf_82
  have hq := hq.2 c31
  by_cases c35 : a1 = (7 : Int32)
  · have hq := hq.1 c35
    refine lv_tableIn (tgt := 83) hx hb dX1_numberOf_1 (by rw [c35]; decide) (by rw [c35]; decide) (by rw [c35]; rfl) (by decide) ?_
    refine lv_aload_n hx hb dX1_numberOf_83 rfl (lv_at hl 0 rfl) ?_
    refine roi (runV ⟨hx, hb, hml, hown, hts⟩ wf_X1_turns ml_X1_76 (c1_turns l dC dI cs ao o_row o_made o_size  hq) ⟨⟨rfl, rfl⟩, by decide, by decide⟩ (preR hP hK hN) hK hP rfl 0 rfl rfl hl.1 rfl (Nat.le_of_ble_eq_true rfl) dX1_numberOf_84 ⟨(Nat.le_of_ble_eq_true rfl), (Nat.le_of_ble_eq_true rfl)⟩) (fun r36 hq => ?_)
    exact W.iret (v := r36) hx hb hr (fun t ht hW => ⟨⟨r36, o_made, rfl, hq, Bw_mk (by rw [ht]; exact hP) (va_K.moved hW.alike hK) hD⟩, hS.F ht⟩) hS.2.2 dX1_numberOf_87
  have hq := hq.2 c35
  refine lv_tableOut (tgt := 88) hx hb dX1_numberOf_1 (by have := i32_ne c19 ; have := i32_ne c21 ; have := i32_ne c23 ; have := i32_ne c25 ; have := i32_ne c27 ; have := i32_ne c29 ; have := i32_ne c31 ; have := i32_ne c35; simp at *; omega) (by decide) ?_
  refine lv_bipush (v := (-2 : Int32)) hx hb dX1_numberOf_88 (by decide) ?_
  exact W.iret (v := (-2 : Int32)) hx hb hr (fun t ht hW => ⟨⟨(-2 : Int32), o_made, rfl, hq, Bw_mk (by rw [ht]; exact hP) (va_K.moved hW.alike hK) hD⟩, hS.F ht⟩) hS.2.2 dX1_numberOf_90
set_option maxHeartbeats 4000000 in
set_option maxRecDepth 100000 in
theorem c2_firstPart (l : Launch) (dC : Nat → ClassId) (dI : Nat → Nat → Nat) (cs : Nat → ClassId) (ap : Nat → Nat) (p_parts : Nat → Int32) (p_length : Int32) {Q : Int32 → Prop} (hq : q2_firstPart p_parts Q) : Met l yX2_firstPart (.code yX2_firstPart cX2_firstPart 1 (some .int) :: gt) ({ frames := 0, cells := 0, slots := 0, locals := 0 } : Room) (va_Pc [.ref (ap 0)] (Pr (dC, dI) (KA cs) (wX2 cs ap p_parts p_length))) (vp_Si Q) 0 0 (fun _ => False) := by
  refine Met.ofW (cc := cX2_firstPart) (maxL := 1) (ret := (some .int)) (by decide) rfl ?_
  intro p e s m args below meth c s₁ B hml hv
  obtain ⟨rfl, hP, hK, hN⟩ := hv
  have hx := B.exec
  have hb := B.bytes
  have hr := B.returns
  have hts0 := atoms_spec (ws := (.code yX2_firstPart cX2_firstPart 1 (some .int) :: gt)) B.pre
  have hts : ∀ w ∈ gt, w.before _ s = true := fun w h => hts0 w (List.mem_cons_of_mem _ h)
  have hown : s.vm.findClass RX2 = some m.cls := findClass_of_methodNamed B.named
  have hlocks := B.notSynchronized
  have hl := lv_entry ([.ref (ap 0)]) (n := 1) (Nat.le_of_ble_eq_true rfl)
  rw [lg_entry_eq]
  generalize (lg_sl ([.ref (ap 0)]) ++ List.replicate (1 - (lg_sl ([.ref (ap 0)])).length) Slot.unset).toArray = ls at hl ⊢
  have hl : lv_has ls 1 [(0, .ref (ap 0))] := hl
  unfold q2_firstPart at hq
  refine lv_aload_n hx hb dX2_firstPart_0 rfl (lv_at hl 0 rfl) ?_
  refine va_get (D := (dC, dI)) (ci := 2) (v := .ref (ap 1)) (C := RX2) (T := TX2) (N := 2) hx hb hts uwX2 hown hK hP 0 rfl rfl 0 (by decide) (hts _ fl_X2_9) (fun _ h9 => h9) rfl dX2_firstPart_1 ?_
  refine lv_iconst (v := (0 : Int32)) hx hb dX2_firstPart_4 (by decide) ?_
  obtain ⟨i2, hq⟩ := hq
  refine va_iald hx hb hK hP 1 0 rfl rfl i2 dX2_firstPart_5 ?_
  exact W.iret (v := (p_parts (0 : Int32).toNatClampNeg)) hx hb hr (fun t ht hW => ⟨(p_parts (0 : Int32).toNatClampNeg), rfl, hq, ht⟩) (fun q h => absurd h List.not_mem_nil) dX2_firstPart_6
set_option maxHeartbeats 4000000 in
set_option maxRecDepth 100000 in
theorem c2_goOn (l : Launch) (dC : Nat → ClassId) (dI : Nat → Nat → Nat) (cs : Nat → ClassId) (ap : Nat → Nat) (sz : Nat) (p_parts : Nat → Int32) (p_length : Int32) {Q : Int32 → (Nat → Int32) → Int32 → Prop} (hq : q2_goOn p_parts p_length Q) : Met l yX2_goOn (.code yX2_goOn cX2_goOn 4 (some .boolean) :: gt) ({ frames := 1, cells := 0, slots := 0, locals := 21 } : Room) (va_Pc [.ref (ap 0)] (Pw (dC, dI) (KA cs) (wX2 cs ap p_parts p_length) sz)) (va_Qi (fun (r : Int32) (u : (Nat → Int32) × Int32) => Q r u.1 u.2) (Bw (dC, dI) (KA cs) (va_A (wX2 cs ap p_parts p_length) sz) (fun u : (Nat → Int32) × Int32 => (wX2 cs ap u.1 u.2))) (va_A (wX2 cs ap p_parts p_length) sz)) 0 0 (va_A (wX2 cs ap p_parts p_length) sz) := by
  refine Met.ofW (cc := cX2_goOn) (maxL := 4) (ret := (some .boolean)) (by decide) rfl ?_
  intro p e s m args below meth c s₁ B hml hv
  obtain ⟨rfl, hsz, hP, hK, hD0, hN⟩ := hv
  have hx := B.exec
  have hb := B.bytes
  have hr := B.returns
  have hts0 := atoms_spec (ws := (.code yX2_goOn cX2_goOn 4 (some .boolean) :: gt)) B.pre
  have hts : ∀ w ∈ gt, w.before _ s = true := fun w h => hts0 w (List.mem_cons_of_mem _ h)
  have hown : s.vm.findClass RX2 = some m.cls := findClass_of_methodNamed B.named
  have hlocks := B.notSynchronized
  subst hsz
  have hD := hD0.self (sz := s.heap.size)
  generalize hAe : va_A (wX2 cs ap p_parts p_length) s.heap.size = A at hD ⊢
  have hA : ∀ q : Nat, s.heap.size ≤ q → A q := fun q h => by rw [← hAe]; exact Or.inr h
  have hS : va_S A s.heap s.heap [] := va_S.rf
  have hl := lv_entry ([.ref (ap 0)]) (n := 4) (Nat.le_of_ble_eq_true rfl)
  rw [lg_entry_eq]
  generalize (lg_sl ([.ref (ap 0)]) ++ List.replicate (4 - (lg_sl ([.ref (ap 0)])).length) Slot.unset).toArray = ls at hl ⊢
  have hl : lv_has ls 4 [(0, .ref (ap 0))] := hl
  have B63 : ∀ (k63 : Nat) (x2 : Int32) (x3 : Int32) (p_parts : Nat → Int32) (p_length : Int32) (H : Heap) (locs : List Loc) (ls : Array Slot), q2_goOn_63 Q k63 x2 x3 p_parts p_length → va_P (dC, dI) vwCl (wX2 cs ap p_parts p_length) H → va_D A (wX2 cs ap p_parts p_length) → va_S A s.heap H locs → lv_has ls 4 [(0, .ref (ap 0)), (2, .int x2), (3, .int x3)] → W p l e ({ frames := 1, cells := 0, slots := 0, locals := 21 } : Room) s m ([.ref (ap 0)] : List Value).toArray below meth c H locs 0 0 (MQ below (va_Qi (fun (r : Int32) (u : (Nat → Int32) × Int32) => Q r u.1 u.2) (Bw (dC, dI) (KA cs) A (fun u : (Nat → Int32) × Int32 => (wX2 cs ap u.1 u.2))) A) ([.ref (ap 0)] : List Value).toArray s 0 0 A) (F0 m 63 ls []) := by
    intro k63
    induction k63 with
    | zero => intro x2 x3 p_parts p_length H locs ls hq; exact False.elim hq
    | succ k63 ih63 =>
      intro x2 x3 p_parts p_length H locs ls hq hP hD hS hl
      unfold q2_goOn_63 at hq
      refine lv_iload_n hx hb dX2_goOn_63 rfl (lv_at hl 1 rfl) ?_
      refine lv_if_le (tgt := 115) hx hb dX2_goOn_64 (by decide) (fun c11 => ?_) (fun c11 => ?_)
      · have hq := hq.1 c11
        refine lv_iconst (v := (1 : Int32)) hx hb dX2_goOn_115 (by decide) ?_
        exact W.zret (ty := .boolean) (v := (1 : Int32)) hx hb hr rfl (fun t ht hW => ⟨⟨(1 : Int32), (p_parts, p_length), rfl, hq, Bw_mk (by rw [ht]; exact hP) (va_K.moved hW.alike hK) hD⟩, hS.F ht⟩) hS.2.2 dX2_goOn_116
      · have hq := hq.2 c11
        refine lv_aload_n hx hb dX2_goOn_67 rfl (lv_at hl 0 rfl) ?_
        refine va_get (D := (dC, dI)) (ci := 2) (v := .int p_length) (C := RX2) (T := TX2) (N := 2) hx hb hts uwX2 hown hK hP 0 rfl rfl 1 (by decide) (hts _ fl_X2_15) (fun _ h9 => h9) rfl dX2_goOn_68 ?_
        refine lv_bipush (v := (18 : Int32)) hx hb dX2_goOn_71 (by decide) ?_
        refine lv_icmp_ge (tgt := 115) hx hb dX2_goOn_73 (by decide) (fun c12 => ?_) (fun c12 => ?_)
        · have hq := hq.1 c12
          refine lv_iconst (v := (1 : Int32)) hx hb dX2_goOn_115 (by decide) ?_
          exact W.zret (ty := .boolean) (v := (1 : Int32)) hx hb hr rfl (fun t ht hW => ⟨⟨(1 : Int32), (p_parts, p_length), rfl, hq, Bw_mk (by rw [ht]; exact hP) (va_K.moved hW.alike hK) hD⟩, hS.F ht⟩) hS.2.2 dX2_goOn_116
        · have hq := hq.2 c12
          refine lv_aload_n hx hb dX2_goOn_76 rfl (lv_at hl 0 rfl) ?_
          refine va_get (D := (dC, dI)) (ci := 2) (v := .ref (ap 1)) (C := RX2) (T := TX2) (N := 2) hx hb hts uwX2 hown hK hP 0 rfl rfl 0 (by decide) (hts _ fl_X2_9) (fun _ h9 => h9) rfl dX2_goOn_77 ?_
          refine lv_aload_n hx hb dX2_goOn_80 rfl (lv_at hl 0 rfl) ?_
          refine va_get (D := (dC, dI)) (ci := 2) (v := .int p_length) (C := RX2) (T := TX2) (N := 2) hx hb hts uwX2 hown hK hP 0 rfl rfl 1 (by decide) (hts _ fl_X2_15) (fun _ h9 => h9) rfl dX2_goOn_81 ?_
          refine lv_iload_n hx hb dX2_goOn_84 rfl (lv_at hl 1 rfl) ?_
          refine lv_iload_n hx hb dX2_goOn_85 rfl (lv_at hl 2 rfl) ?_
          refine va_mmin hx hb (hml.trans hl.1.symm) hown (hts _ ml_X2_19) (hts _ sm_J9_min) (hts _ in_J9) (hts _ cw_J9_min) (Nat.le_of_ble_eq_true rfl) (Nat.le_of_ble_eq_true rfl) (Nat.le_of_ble_eq_true rfl) (Nat.le_of_ble_eq_true rfl) dX2_goOn_86 ?_
          obtain ⟨i13, hq⟩ := hq
          refine va_iast hx hb hK hP hD hS 1 0 rfl rfl i13 dX2_goOn_89 (fun H locs hP hD hS => ?_)
          have hP : va_P (dC, dI) vwCl (wX2 cs ap (upd p_parts p_length.toNatClampNeg (if x3 < x2 then x3 else x2)) p_length) H := hP
          have hD : va_D A (wX2 cs ap (upd p_parts p_length.toNatClampNeg (if x3 < x2 then x3 else x2)) p_length) := hD
          refine lv_iload_n hx hb dX2_goOn_90 rfl (lv_at hl 1 rfl) ?_
          refine lv_aload_n hx hb dX2_goOn_91 rfl (lv_at hl 0 rfl) ?_
          refine va_get (D := (dC, dI)) (ci := 2) (v := .ref (ap 1)) (C := RX2) (T := TX2) (N := 2) hx hb hts uwX2 hown hK hP 0 rfl rfl 0 (by decide) (hts _ fl_X2_9) (fun _ h9 => h9) rfl dX2_goOn_92 ?_
          refine lv_aload_n hx hb dX2_goOn_95 rfl (lv_at hl 0 rfl) ?_
          refine va_get (D := (dC, dI)) (ci := 2) (v := .int p_length) (C := RX2) (T := TX2) (N := 2) hx hb hts uwX2 hown hK hP 0 rfl rfl 1 (by decide) (hts _ fl_X2_15) (fun _ h9 => h9) rfl dX2_goOn_96 ?_
          obtain ⟨i14, hq⟩ := hq
          refine va_iald hx hb hK hP 1 0 rfl rfl i14 dX2_goOn_99 ?_
          refine lv_isub hx hb dX2_goOn_100 ?_
          refine lv_istore_n (lv' := [(2, .int (x2 - ((upd p_parts p_length.toNatClampNeg (if x3 < x2 then x3 else x2)) p_length.toNatClampNeg))), (0, .ref (ap 0)), (3, .int x3)]) hx hb dX2_goOn_101 rfl hl (by decide) rfl (fun ls hl => ?_)
          refine lv_aload_n hx hb dX2_goOn_102 rfl (lv_at hl 1 rfl) ?_
          refine lv_dup hx hb dX2_goOn_103 rfl ?_
          refine va_get (D := (dC, dI)) (ci := 2) (v := .int p_length) (C := RX2) (T := TX2) (N := 2) hx hb hts uwX2 hown hK hP 0 rfl rfl 1 (by decide) (hts _ fl_X2_15) (fun _ h9 => h9) rfl dX2_goOn_104 ?_
          refine lv_iconst (v := (1 : Int32)) hx hb dX2_goOn_107 (by decide) ?_
          refine lv_iadd hx hb dX2_goOn_108 ?_
          refine va_put (D := (dC, dI)) (ci := 2) (v := .int (p_length + (1 : Int32))) (ty := .int) (C := RX2) (T := TX2) (N := 2) hx hb hts uwX2 tyX2 tyX2_ok nmX2 hown hK hP hD hS 0 rfl rfl 1 (by decide) (hts _ fl_X2_15) (fun _ h9 => h9) rfl (by decide +kernel) rfl rfl (Nat.le_of_ble_eq_true rfl) dX2_goOn_109 (fun H locs hP hD hS => ?_)
          have hP : va_P (dC, dI) vwCl (wX2 cs ap (upd p_parts p_length.toNatClampNeg (if x3 < x2 then x3 else x2)) (p_length + (1 : Int32))) H := hP
          have hD : va_D A (wX2 cs ap (upd p_parts p_length.toNatClampNeg (if x3 < x2 then x3 else x2)) (p_length + (1 : Int32))) := hD
          refine lv_goto (tgt := 63) hx hb dX2_goOn_112 (by decide) ?_
          exact ih63 (x2 - ((upd p_parts p_length.toNatClampNeg (if x3 < x2 then x3 else x2)) p_length.toNatClampNeg)) x3 (upd p_parts p_length.toNatClampNeg (if x3 < x2 then x3 else x2)) (p_length + (1 : Int32)) _ _ _ hq hP hD hS (lv_sub hl [1, 0, 2] rfl)
  have B27 : ∀ (x1 : Int32) (p_parts : Nat → Int32) (p_length : Int32) (H : Heap) (locs : List Loc) (ls : Array Slot), q2_goOn_27 Q x1 p_parts p_length → va_P (dC, dI) vwCl (wX2 cs ap p_parts p_length) H → va_D A (wX2 cs ap p_parts p_length) → va_S A s.heap H locs → lv_has ls 4 [(0, .ref (ap 0)), (1, .int x1)] → W p l e ({ frames := 1, cells := 0, slots := 0, locals := 21 } : Room) s m ([.ref (ap 0)] : List Value).toArray below meth c H locs 0 0 (MQ below (va_Qi (fun (r : Int32) (u : (Nat → Int32) × Int32) => Q r u.1 u.2) (Bw (dC, dI) (KA cs) A (fun u : (Nat → Int32) × Int32 => (wX2 cs ap u.1 u.2))) A) ([.ref (ap 0)] : List Value).toArray s 0 0 A) (F0 m 27 ls []) := by
    intro x1 p_parts p_length H locs ls hq hP hD hS hl
    unfold q2_goOn_27 at hq
    refine lv_iload_n hx hb dX2_goOn_27 rfl (lv_at hl 1 rfl) ?_
    refine lv_if_ge (tgt := 33) hx hb dX2_goOn_28 (by decide) (fun c15 => ?_) (fun c15 => ?_)
    · have hq := hq.1 c15
      refine lv_aload_n hx hb dX2_goOn_33 rfl (lv_at hl 0 rfl) ?_
      refine va_get (D := (dC, dI)) (ci := 2) (v := .int p_length) (C := RX2) (T := TX2) (N := 2) hx hb hts uwX2 hown hK hP 0 rfl rfl 1 (by decide) (hts _ fl_X2_15) (fun _ h9 => h9) rfl dX2_goOn_34 ?_
      refine lv_iload_n hx hb dX2_goOn_37 rfl (lv_at hl 1 rfl) ?_
      refine lv_isub hx hb dX2_goOn_38 ?_
      refine lv_istore_n (lv' := [(2, .int (p_length - x1)), (0, .ref (ap 0)), (1, .int x1)]) hx hb dX2_goOn_39 rfl hl (by decide) rfl (fun ls hl => ?_)
      refine lv_aload_n hx hb dX2_goOn_40 rfl (lv_at hl 1 rfl) ?_
      refine va_get (D := (dC, dI)) (ci := 2) (v := .ref (ap 1)) (C := RX2) (T := TX2) (N := 2) hx hb hts uwX2 hown hK hP 0 rfl rfl 0 (by decide) (hts _ fl_X2_9) (fun _ h9 => h9) rfl dX2_goOn_41 ?_
      refine lv_iload_n hx hb dX2_goOn_44 rfl (lv_at hl 2 rfl) ?_
      obtain ⟨i16, hq⟩ := hq
      refine va_iald hx hb hK hP 1 0 rfl rfl i16 dX2_goOn_45 ?_
      refine lv_iconst (v := (1 : Int32)) hx hb dX2_goOn_46 (by decide) ?_
      refine lv_isub hx hb dX2_goOn_47 ?_
      refine lv_istore_n (lv' := [(3, .int ((p_parts x1.toNatClampNeg) - (1 : Int32))), (2, .int (p_length - x1)), (0, .ref (ap 0)), (1, .int x1)]) hx hb dX2_goOn_48 rfl hl (by decide) rfl (fun ls hl => ?_)
      refine lv_aload_n hx hb dX2_goOn_49 rfl (lv_at hl 2 rfl) ?_
      refine va_get (D := (dC, dI)) (ci := 2) (v := .ref (ap 1)) (C := RX2) (T := TX2) (N := 2) hx hb hts uwX2 hown hK hP 0 rfl rfl 0 (by decide) (hts _ fl_X2_9) (fun _ h9 => h9) rfl dX2_goOn_50 ?_
      refine lv_iload_n hx hb dX2_goOn_53 rfl (lv_at hl 3 rfl) ?_
      refine lv_iload_n hx hb dX2_goOn_54 rfl (lv_at hl 0 rfl) ?_
      obtain ⟨i17, hq⟩ := hq
      refine va_iast hx hb hK hP hD hS 1 0 rfl rfl i17 dX2_goOn_55 (fun H locs hP hD hS => ?_)
      have hP : va_P (dC, dI) vwCl (wX2 cs ap (upd p_parts x1.toNatClampNeg ((p_parts x1.toNatClampNeg) - (1 : Int32))) p_length) H := hP
      have hD : va_D A (wX2 cs ap (upd p_parts x1.toNatClampNeg ((p_parts x1.toNatClampNeg) - (1 : Int32))) p_length) := hD
      refine lv_aload_n hx hb dX2_goOn_56 rfl (lv_at hl 2 rfl) ?_
      refine lv_iload_n hx hb dX2_goOn_57 rfl (lv_at hl 3 rfl) ?_
      refine lv_iconst (v := (1 : Int32)) hx hb dX2_goOn_58 (by decide) ?_
      refine lv_iadd hx hb dX2_goOn_59 ?_
      refine va_put (D := (dC, dI)) (ci := 2) (v := .int (x1 + (1 : Int32))) (ty := .int) (C := RX2) (T := TX2) (N := 2) hx hb hts uwX2 tyX2 tyX2_ok nmX2 hown hK hP hD hS 0 rfl rfl 1 (by decide) (hts _ fl_X2_15) (fun _ h9 => h9) rfl (by decide +kernel) rfl rfl (Nat.le_of_ble_eq_true rfl) dX2_goOn_60 (fun H locs hP hD hS => ?_)
      have hP : va_P (dC, dI) vwCl (wX2 cs ap (upd p_parts x1.toNatClampNeg ((p_parts x1.toNatClampNeg) - (1 : Int32))) (x1 + (1 : Int32))) H := hP
      have hD : va_D A (wX2 cs ap (upd p_parts x1.toNatClampNeg ((p_parts x1.toNatClampNeg) - (1 : Int32))) (x1 + (1 : Int32))) := hD
      obtain ⟨kf, hq⟩ := hq
      exact B63 kf (p_length - x1) ((p_parts x1.toNatClampNeg) - (1 : Int32)) (upd p_parts x1.toNatClampNeg ((p_parts x1.toNatClampNeg) - (1 : Int32))) (x1 + (1 : Int32)) _ _ _ hq hP hD hS (lv_sub hl [2, 1, 0] rfl)
    · have hq := hq.2 c15
      refine lv_iconst (v := (0 : Int32)) hx hb dX2_goOn_31 (by decide) ?_
      exact W.zret (ty := .boolean) (v := (0 : Int32)) hx hb hr rfl (fun t ht hW => ⟨⟨(0 : Int32), (p_parts, p_length), rfl, hq, Bw_mk (by rw [ht]; exact hP) (va_K.moved hW.alike hK) hD⟩, hS.F ht⟩) hS.2.2 dX2_goOn_32
  have B7 : ∀ (k7 : Nat) (x1 : Int32) (p_parts : Nat → Int32) (p_length : Int32) (H : Heap) (locs : List Loc) (ls : Array Slot), q2_goOn_7 Q k7 x1 p_parts p_length → va_P (dC, dI) vwCl (wX2 cs ap p_parts p_length) H → va_D A (wX2 cs ap p_parts p_length) → va_S A s.heap H locs → lv_has ls 4 [(0, .ref (ap 0)), (1, .int x1)] → W p l e ({ frames := 1, cells := 0, slots := 0, locals := 21 } : Room) s m ([.ref (ap 0)] : List Value).toArray below meth c H locs 0 0 (MQ below (va_Qi (fun (r : Int32) (u : (Nat → Int32) × Int32) => Q r u.1 u.2) (Bw (dC, dI) (KA cs) A (fun u : (Nat → Int32) × Int32 => (wX2 cs ap u.1 u.2))) A) ([.ref (ap 0)] : List Value).toArray s 0 0 A) (F0 m 7 ls []) := by
    intro k7
    induction k7 with
    | zero => intro x1 p_parts p_length H locs ls hq; exact False.elim hq
    | succ k7 ih7 =>
      intro x1 p_parts p_length H locs ls hq hP hD hS hl
      unfold q2_goOn_7 at hq
      refine lv_iload_n hx hb dX2_goOn_7 rfl (lv_at hl 1 rfl) ?_
      refine lv_if_lt (tgt := 27) hx hb dX2_goOn_8 (by decide) (fun c18 => ?_) (fun c18 => ?_)
      · have hq := hq.1 c18
        exact B27 x1 p_parts p_length _ _ _ hq hP hD hS (lv_sub hl [0, 1] rfl)
      · have hq := hq.2 c18
        refine lv_aload_n hx hb dX2_goOn_11 rfl (lv_at hl 0 rfl) ?_
        refine va_get (D := (dC, dI)) (ci := 2) (v := .ref (ap 1)) (C := RX2) (T := TX2) (N := 2) hx hb hts uwX2 hown hK hP 0 rfl rfl 0 (by decide) (hts _ fl_X2_9) (fun _ h9 => h9) rfl dX2_goOn_12 ?_
        refine lv_iload_n hx hb dX2_goOn_15 rfl (lv_at hl 1 rfl) ?_
        obtain ⟨i19, hq⟩ := hq
        refine va_iald hx hb hK hP 1 0 rfl rfl i19 dX2_goOn_16 ?_
        refine lv_iconst (v := (1 : Int32)) hx hb dX2_goOn_17 (by decide) ?_
        refine lv_icmp_ne (tgt := 27) hx hb dX2_goOn_18 (by decide) (fun c20 => ?_) (fun c20 => ?_)
        · have hq := hq.1 c20
          exact B27 x1 p_parts p_length _ _ _ hq hP hD hS (lv_sub hl [0, 1] rfl)
        · have hq := hq.2 c20
          refine lv_iinc (v := (x1 + (-1 : Int32))) (lv' := [(1, .int (x1 + (-1 : Int32))), (0, .ref (ap 0))]) hx hb dX2_goOn_21 hl (k := 1) rfl (by rfl) (by decide) rfl (fun ls hl => ?_)
          refine lv_goto (tgt := 7) hx hb dX2_goOn_24 (by decide) ?_
          exact ih7 (x1 + (-1 : Int32)) p_parts p_length _ _ _ hq hP hD hS (lv_sub hl [1, 0] rfl)
  unfold q2_goOn at hq
  refine lv_aload_n hx hb dX2_goOn_0 rfl (lv_at hl 0 rfl) ?_
  refine va_get (D := (dC, dI)) (ci := 2) (v := .int p_length) (C := RX2) (T := TX2) (N := 2) hx hb hts uwX2 hown hK hP 0 rfl rfl 1 (by decide) (hts _ fl_X2_15) (fun _ h9 => h9) rfl dX2_goOn_1 ?_
  refine lv_iconst (v := (1 : Int32)) hx hb dX2_goOn_4 (by decide) ?_
  refine lv_isub hx hb dX2_goOn_5 ?_
  refine lv_istore_n (lv' := [(1, .int (p_length - (1 : Int32))), (0, .ref (ap 0))]) hx hb dX2_goOn_6 rfl hl (by decide) rfl (fun ls hl => ?_)
  obtain ⟨kf, hq⟩ := hq
  exact B7 kf (p_length - (1 : Int32)) p_parts p_length _ _ _ hq hP hD hS (lv_sub hl [1, 0] rfl)
set_option maxHeartbeats 4000000 in
set_option maxRecDepth 100000 in
theorem c2_hookProduct (l : Launch) (dC : Nat → ClassId) (dI : Nat → Nat → Nat) (cs : Nat → ClassId) (ap : Nat → Nat) (p_parts : Nat → Int32) (p_length : Int32) {Q : Int64 → Prop} (hq : q2_hookProduct p_parts p_length Q) : Met l yX2_hookProduct (.code yX2_hookProduct cX2_hookProduct 6 (some .long) :: gt) ({ frames := 0, cells := 0, slots := 0, locals := 0 } : Room) (va_Pc [.ref (ap 0)] (Pr (dC, dI) (KA cs) (wX2 cs ap p_parts p_length))) (vp_Sl Q) 0 0 (fun _ => False) := by
  refine Met.ofW (cc := cX2_hookProduct) (maxL := 6) (ret := (some .long)) (by decide) rfl ?_
  intro p e s m args below meth c s₁ B hml hv
  obtain ⟨rfl, hP, hK, hN⟩ := hv
  have hx := B.exec
  have hb := B.bytes
  have hr := B.returns
  have hts0 := atoms_spec (ws := (.code yX2_hookProduct cX2_hookProduct 6 (some .long) :: gt)) B.pre
  have hts : ∀ w ∈ gt, w.before _ s = true := fun w h => hts0 w (List.mem_cons_of_mem _ h)
  have hown : s.vm.findClass RX2 = some m.cls := findClass_of_methodNamed B.named
  have hlocks := B.notSynchronized
  have hl := lv_entry ([.ref (ap 0)]) (n := 6) (Nat.le_of_ble_eq_true rfl)
  rw [lg_entry_eq]
  generalize (lg_sl ([.ref (ap 0)]) ++ List.replicate (6 - (lg_sl ([.ref (ap 0)])).length) Slot.unset).toArray = ls at hl ⊢
  have hl : lv_has ls 6 [(0, .ref (ap 0))] := hl
  have B4 : ∀ (k4 : Nat) (x1 : Int64) (x3 : Int32) (ls : Array Slot), q2_hookProduct_4 p_parts p_length Q k4 x1 x3 → lv_has ls 6 [(0, .ref (ap 0)), (1, .long x1), (3, .int x3)] → W p l e ({ frames := 0, cells := 0, slots := 0, locals := 0 } : Room) s m ([.ref (ap 0)] : List Value).toArray below meth c s.heap [] 0 0 (MQ below (vp_Sl Q) ([.ref (ap 0)] : List Value).toArray s 0 0 (fun _ => False)) (F0 m 4 ls []) := by
    intro k4
    induction k4 with
    | zero => intro x1 x3 ls hq; exact False.elim hq
    | succ k4 ih4 =>
      intro x1 x3 ls hq hl
      have B82 : ∀ (x1 : Int64) (x3 : Int32) (ls : Array Slot), q2_hookProduct_82 p_parts p_length (fun v0 v1 => q2_hookProduct_4 p_parts p_length Q k4 v0 v1) Q x1 x3 → lv_has ls 6 [(0, .ref (ap 0)), (1, .long x1), (3, .int x3)] → W p l e ({ frames := 0, cells := 0, slots := 0, locals := 0 } : Room) s m ([.ref (ap 0)] : List Value).toArray below meth c s.heap [] 0 0 (MQ below (vp_Sl Q) ([.ref (ap 0)] : List Value).toArray s 0 0 (fun _ => False)) (F0 m 82 ls []) := by
        intro x1 x3 ls hq hl
        unfold q2_hookProduct_82 at hq
        refine lv_iinc (v := (x3 + (1 : Int32))) (lv' := [(3, .int (x3 + (1 : Int32))), (0, .ref (ap 0)), (1, .long x1)]) hx hb dX2_hookProduct_82 hl (k := 2) rfl (by rfl) (by decide) rfl (fun ls hl => ?_)
        refine lv_goto (tgt := 4) hx hb dX2_hookProduct_85 (by decide) ?_
        exact ih4 x1 (x3 + (1 : Int32)) _ hq (lv_sub hl [1, 2, 0] rfl)
      have B23 : ∀ (k23 : Nat) (x1 : Int64) (x3 : Int32) (x4 : Int32) (x5 : Int32) (ls : Array Slot), q2_hookProduct_23 p_parts p_length (fun v0 v1 => q2_hookProduct_4 p_parts p_length Q k4 v0 v1) Q k23 x1 x3 x4 x5 → lv_has ls 6 [(0, .ref (ap 0)), (1, .long x1), (3, .int x3), (4, .int x4), (5, .int x5)] → W p l e ({ frames := 0, cells := 0, slots := 0, locals := 0 } : Room) s m ([.ref (ap 0)] : List Value).toArray below meth c s.heap [] 0 0 (MQ below (vp_Sl Q) ([.ref (ap 0)] : List Value).toArray s 0 0 (fun _ => False)) (F0 m 23 ls []) := by
        intro k23
        induction k23 with
        | zero => intro x1 x3 x4 x5 ls hq; exact False.elim hq
        | succ k23 ih23 =>
          intro x1 x3 x4 x5 ls hq hl
          have B58 : ∀ (x1 : Int64) (x3 : Int32) (x4 : Int32) (x5 : Int32) (ls : Array Slot), q2_hookProduct_58 p_parts p_length (fun v0 v1 => q2_hookProduct_4 p_parts p_length Q k4 v0 v1) (fun v0 v1 v2 v3 => q2_hookProduct_23 p_parts p_length (fun v0 v1 => q2_hookProduct_4 p_parts p_length Q k4 v0 v1) Q k23 v0 v1 v2 v3) Q x1 x3 x4 x5 → lv_has ls 6 [(0, .ref (ap 0)), (1, .long x1), (3, .int x3), (4, .int x4), (5, .int x5)] → W p l e ({ frames := 0, cells := 0, slots := 0, locals := 0 } : Room) s m ([.ref (ap 0)] : List Value).toArray below meth c s.heap [] 0 0 (MQ below (vp_Sl Q) ([.ref (ap 0)] : List Value).toArray s 0 0 (fun _ => False)) (F0 m 58 ls []) := by
            intro x1 x3 x4 x5 ls hq hl
            unfold q2_hookProduct_58 at hq
            refine lv_lload_n hx hb dX2_hookProduct_58 rfl (lv_at hl 1 rfl) ?_
            refine lv_aload_n hx hb dX2_hookProduct_59 rfl (lv_at hl 0 rfl) ?_
            refine va_get (D := (dC, dI)) (ci := 2) (v := .ref (ap 1)) (C := RX2) (T := TX2) (N := 2) hx hb hts uwX2 hown hK hP 0 rfl rfl 0 (by decide) (hts _ fl_X2_9) (fun _ h9 => h9) rfl dX2_hookProduct_60 ?_
            refine lv_iload_n hx hb dX2_hookProduct_63 rfl (lv_at hl 2 rfl) ?_
            obtain ⟨i8, hq⟩ := hq
            refine va_iald hx hb hK hP 1 0 rfl rfl i8 dX2_hookProduct_64 ?_
            refine lv_iload hx hb dX2_hookProduct_65 (lv_at hl 4 rfl) ?_
            refine lv_isub hx hb dX2_hookProduct_67 ?_
            refine lv_iload hx hb dX2_hookProduct_68 (lv_at hl 3 rfl) ?_
            refine lv_iadd hx hb dX2_hookProduct_70 ?_
            refine lv_iload_n hx hb dX2_hookProduct_71 rfl (lv_at hl 2 rfl) ?_
            refine lv_isub hx hb dX2_hookProduct_72 ?_
            refine lv_i2l (v := ((((p_parts x3.toNatClampNeg) - x5) + x4) - x3).toInt64) hx hb dX2_hookProduct_73 rfl ?_
            refine lv_lmul hx hb dX2_hookProduct_74 ?_
            refine lv_lstore_n (lv' := [(1, .long (x1 * ((((p_parts x3.toNatClampNeg) - x5) + x4) - x3).toInt64)), (0, .ref (ap 0)), (3, .int x3), (4, .int x4), (5, .int x5)]) hx hb dX2_hookProduct_75 rfl hl (by decide) rfl (fun ls hl => ?_)
            refine lv_iinc (v := (x5 + (1 : Int32))) (lv' := [(5, .int (x5 + (1 : Int32))), (1, .long (x1 * ((((p_parts x3.toNatClampNeg) - x5) + x4) - x3).toInt64)), (0, .ref (ap 0)), (3, .int x3), (4, .int x4)]) hx hb dX2_hookProduct_76 hl (k := 4) rfl (by rfl) (by decide) rfl (fun ls hl => ?_)
            refine lv_goto (tgt := 23) hx hb dX2_hookProduct_79 (by decide) ?_
            exact ih23 (x1 * ((((p_parts x3.toNatClampNeg) - x5) + x4) - x3).toInt64) x3 x4 (x5 + (1 : Int32)) _ hq (lv_sub hl [2, 1, 3, 4, 0] rfl)
          have B34 : ∀ (k34 : Nat) (x1 : Int64) (x3 : Int32) (x4 : Int32) (x5 : Int32) (ls : Array Slot), q2_hookProduct_34 p_parts p_length (fun v0 v1 => q2_hookProduct_4 p_parts p_length Q k4 v0 v1) (fun v0 v1 v2 v3 => q2_hookProduct_23 p_parts p_length (fun v0 v1 => q2_hookProduct_4 p_parts p_length Q k4 v0 v1) Q k23 v0 v1 v2 v3) Q k34 x1 x3 x4 x5 → lv_has ls 6 [(0, .ref (ap 0)), (1, .long x1), (3, .int x3), (4, .int x4), (5, .int x5)] → W p l e ({ frames := 0, cells := 0, slots := 0, locals := 0 } : Room) s m ([.ref (ap 0)] : List Value).toArray below meth c s.heap [] 0 0 (MQ below (vp_Sl Q) ([.ref (ap 0)] : List Value).toArray s 0 0 (fun _ => False)) (F0 m 34 ls []) := by
            intro k34
            induction k34 with
            | zero => intro x1 x3 x4 x5 ls hq; exact False.elim hq
            | succ k34 ih34 =>
              intro x1 x3 x4 x5 ls hq hl
              unfold q2_hookProduct_34 at hq
              refine lv_iload hx hb dX2_hookProduct_34 (lv_at hl 3 rfl) ?_
              refine lv_iload_n hx hb dX2_hookProduct_36 rfl (lv_at hl 2 rfl) ?_
              refine lv_icmp_le (tgt := 58) hx hb dX2_hookProduct_37 (by decide) (fun c9 => ?_) (fun c9 => ?_)
              · have hq := hq.1 c9
                exact B58 x1 x3 x4 x5 _ hq (lv_sub hl [0, 1, 2, 3, 4] rfl)
              · have hq := hq.2 c9
                refine lv_aload_n hx hb dX2_hookProduct_40 rfl (lv_at hl 0 rfl) ?_
                refine va_get (D := (dC, dI)) (ci := 2) (v := .ref (ap 1)) (C := RX2) (T := TX2) (N := 2) hx hb hts uwX2 hown hK hP 0 rfl rfl 0 (by decide) (hts _ fl_X2_9) (fun _ h9 => h9) rfl dX2_hookProduct_41 ?_
                refine lv_iload hx hb dX2_hookProduct_44 (lv_at hl 3 rfl) ?_
                obtain ⟨i10, hq⟩ := hq
                refine va_iald hx hb hK hP 1 0 rfl rfl i10 dX2_hookProduct_46 ?_
                refine lv_iload hx hb dX2_hookProduct_47 (lv_at hl 4 rfl) ?_
                refine lv_icmp_gt (tgt := 58) hx hb dX2_hookProduct_49 (by decide) (fun c11 => ?_) (fun c11 => ?_)
                · have hq := hq.1 c11
                  exact B58 x1 x3 x4 x5 _ hq (lv_sub hl [0, 1, 2, 3, 4] rfl)
                · have hq := hq.2 c11
                  refine lv_iinc (v := (x4 + (-1 : Int32))) (lv' := [(4, .int (x4 + (-1 : Int32))), (0, .ref (ap 0)), (1, .long x1), (3, .int x3), (5, .int x5)]) hx hb dX2_hookProduct_52 hl (k := 3) rfl (by rfl) (by decide) rfl (fun ls hl => ?_)
                  refine lv_goto (tgt := 34) hx hb dX2_hookProduct_55 (by decide) ?_
                  exact ih34 x1 x3 (x4 + (-1 : Int32)) x5 _ hq (lv_sub hl [1, 2, 3, 0, 4] rfl)
          unfold q2_hookProduct_23 at hq
          refine lv_iload hx hb dX2_hookProduct_23 (lv_at hl 4 rfl) ?_
          refine lv_aload_n hx hb dX2_hookProduct_25 rfl (lv_at hl 0 rfl) ?_
          refine va_get (D := (dC, dI)) (ci := 2) (v := .ref (ap 1)) (C := RX2) (T := TX2) (N := 2) hx hb hts uwX2 hown hK hP 0 rfl rfl 0 (by decide) (hts _ fl_X2_9) (fun _ h9 => h9) rfl dX2_hookProduct_26 ?_
          refine lv_iload_n hx hb dX2_hookProduct_29 rfl (lv_at hl 2 rfl) ?_
          obtain ⟨i12, hq⟩ := hq
          refine va_iald hx hb hK hP 1 0 rfl rfl i12 dX2_hookProduct_30 ?_
          refine lv_icmp_ge (tgt := 82) hx hb dX2_hookProduct_31 (by decide) (fun c13 => ?_) (fun c13 => ?_)
          · have hq := hq.1 c13
            exact B82 x1 x3 _ hq (lv_sub hl [0, 1, 2] rfl)
          · have hq := hq.2 c13
            obtain ⟨kf, hq⟩ := hq
            exact B34 kf x1 x3 x4 x5 _ hq (lv_sub hl [0, 1, 2, 3, 4] rfl)
      unfold q2_hookProduct_4 at hq
      refine lv_iload_n hx hb dX2_hookProduct_4 rfl (lv_at hl 2 rfl) ?_
      refine lv_aload_n hx hb dX2_hookProduct_5 rfl (lv_at hl 0 rfl) ?_
      refine va_get (D := (dC, dI)) (ci := 2) (v := .int p_length) (C := RX2) (T := TX2) (N := 2) hx hb hts uwX2 hown hK hP 0 rfl rfl 1 (by decide) (hts _ fl_X2_15) (fun _ h9 => h9) rfl dX2_hookProduct_6 ?_
      refine lv_icmp_ge (tgt := 88) hx hb dX2_hookProduct_9 (by decide) (fun c14 => ?_) (fun c14 => ?_)
      · have hq := hq.1 c14
        refine lv_lload_n hx hb dX2_hookProduct_88 rfl (lv_at hl 1 rfl) ?_
        exact W.lret (v := x1) hx hb hr (fun t ht hW => ⟨x1, rfl, hq, ht⟩) (fun q h => absurd h List.not_mem_nil) dX2_hookProduct_89
      · have hq := hq.2 c14
        refine lv_aload_n hx hb dX2_hookProduct_12 rfl (lv_at hl 0 rfl) ?_
        refine va_get (D := (dC, dI)) (ci := 2) (v := .int p_length) (C := RX2) (T := TX2) (N := 2) hx hb hts uwX2 hown hK hP 0 rfl rfl 1 (by decide) (hts _ fl_X2_15) (fun _ h9 => h9) rfl dX2_hookProduct_13 ?_
        refine lv_iconst (v := (1 : Int32)) hx hb dX2_hookProduct_16 (by decide) ?_
        refine lv_isub hx hb dX2_hookProduct_17 ?_
        refine lv_istore (lv' := [(4, .int (p_length - (1 : Int32))), (0, .ref (ap 0)), (1, .long x1), (3, .int x3)]) hx hb dX2_hookProduct_18 hl (by decide) rfl (fun ls hl => ?_)
        refine lv_iconst (v := (0 : Int32)) hx hb dX2_hookProduct_20 (by decide) ?_
        refine lv_istore (lv' := [(5, .int (0 : Int32)), (4, .int (p_length - (1 : Int32))), (0, .ref (ap 0)), (1, .long x1), (3, .int x3)]) hx hb dX2_hookProduct_21 hl (by decide) rfl (fun ls hl => ?_)
        obtain ⟨kf, hq⟩ := hq
        exact B23 kf x1 x3 (p_length - (1 : Int32)) (0 : Int32) _ hq (lv_sub hl [2, 3, 4, 1, 0] rfl)
  unfold q2_hookProduct at hq
  refine lv_lconst (v := (1 : Int64)) hx hb dX2_hookProduct_0 (by decide) ?_
  refine lv_lstore_n (lv' := [(1, .long (1 : Int64)), (0, .ref (ap 0))]) hx hb dX2_hookProduct_1 rfl hl (by decide) rfl (fun ls hl => ?_)
  refine lv_iconst (v := (0 : Int32)) hx hb dX2_hookProduct_2 (by decide) ?_
  refine lv_istore_n (lv' := [(3, .int (0 : Int32)), (1, .long (1 : Int64)), (0, .ref (ap 0))]) hx hb dX2_hookProduct_3 rfl hl (by decide) rfl (fun ls hl => ?_)
  obtain ⟨kf, hq⟩ := hq
  exact B4 kf (1 : Int64) (0 : Int32) _ hq (lv_sub hl [2, 1, 0] rfl)
set_option maxHeartbeats 4000000 in
set_option maxRecDepth 100000 in
theorem c2_sameRounds (l : Launch) (dC : Nat → ClassId) (dI : Nat → Nat → Nat) (cs : Nat → ClassId) (ap : Nat → Nat) (p_parts : Nat → Int32) (p_length : Int32) {Q : Int64 → Prop} (hq : q2_sameRounds p_parts p_length Q) : Met l yX2_sameRounds (.code yX2_sameRounds cX2_sameRounds 5 (some .long) :: gt) ({ frames := 0, cells := 0, slots := 0, locals := 0 } : Room) (va_Pc [.ref (ap 0)] (Pr (dC, dI) (KA cs) (wX2 cs ap p_parts p_length))) (vp_Sl Q) 0 0 (fun _ => False) := by
  refine Met.ofW (cc := cX2_sameRounds) (maxL := 5) (ret := (some .long)) (by decide) rfl ?_
  intro p e s m args below meth c s₁ B hml hv
  obtain ⟨rfl, hP, hK, hN⟩ := hv
  have hx := B.exec
  have hb := B.bytes
  have hr := B.returns
  have hts0 := atoms_spec (ws := (.code yX2_sameRounds cX2_sameRounds 5 (some .long) :: gt)) B.pre
  have hts : ∀ w ∈ gt, w.before _ s = true := fun w h => hts0 w (List.mem_cons_of_mem _ h)
  have hown : s.vm.findClass RX2 = some m.cls := findClass_of_methodNamed B.named
  have hlocks := B.notSynchronized
  have hl := lv_entry ([.ref (ap 0)]) (n := 5) (Nat.le_of_ble_eq_true rfl)
  rw [lg_entry_eq]
  generalize (lg_sl ([.ref (ap 0)]) ++ List.replicate (5 - (lg_sl ([.ref (ap 0)])).length) Slot.unset).toArray = ls at hl ⊢
  have hl : lv_has ls 5 [(0, .ref (ap 0))] := hl
  have B7 : ∀ (k7 : Nat) (x1 : Int64) (x3 : Int32) (x4 : Int32) (ls : Array Slot), q2_sameRounds_7 p_parts p_length Q k7 x1 x3 x4 → lv_has ls 5 [(0, .ref (ap 0)), (1, .long x1), (3, .int x3), (4, .int x4)] → W p l e ({ frames := 0, cells := 0, slots := 0, locals := 0 } : Room) s m ([.ref (ap 0)] : List Value).toArray below meth c s.heap [] 0 0 (MQ below (vp_Sl Q) ([.ref (ap 0)] : List Value).toArray s 0 0 (fun _ => False)) (F0 m 7 ls []) := by
    intro k7
    induction k7 with
    | zero => intro x1 x3 x4 ls hq; exact False.elim hq
    | succ k7 ih7 =>
      intro x1 x3 x4 ls hq hl
      have B47 : ∀ (s0 : Int32) (x1 : Int64) (x4 : Int32) (ls : Array Slot), q2_sameRounds_47 p_parts p_length (fun v0 v1 v2 => q2_sameRounds_7 p_parts p_length Q k7 v0 v1 v2) Q s0 x1 x4 → lv_has ls 5 [(0, .ref (ap 0)), (1, .long x1), (4, .int x4)] → W p l e ({ frames := 0, cells := 0, slots := 0, locals := 0 } : Room) s m ([.ref (ap 0)] : List Value).toArray below meth c s.heap [] 0 0 (MQ below (vp_Sl Q) ([.ref (ap 0)] : List Value).toArray s 0 0 (fun _ => False)) (F0 m 47 ls [.int s0]) := by
        intro s0 x1 x4 ls hq hl
        unfold q2_sameRounds_47 at hq
        refine lv_istore_n (lv' := [(3, .int s0), (0, .ref (ap 0)), (1, .long x1), (4, .int x4)]) hx hb dX2_sameRounds_47 rfl hl (by decide) rfl (fun ls hl => ?_)
        refine lv_lload_n hx hb dX2_sameRounds_48 rfl (lv_at hl 2 rfl) ?_
        refine lv_aload_n hx hb dX2_sameRounds_49 rfl (lv_at hl 1 rfl) ?_
        refine va_get (D := (dC, dI)) (ci := 2) (v := .ref (ap 1)) (C := RX2) (T := TX2) (N := 2) hx hb hts uwX2 hown hK hP 0 rfl rfl 0 (by decide) (hts _ fl_X2_9) (fun _ h9 => h9) rfl dX2_sameRounds_50 ?_
        refine lv_iload hx hb dX2_sameRounds_53 (lv_at hl 3 rfl) ?_
        obtain ⟨i7, hq⟩ := hq
        refine va_iald hx hb hK hP 1 0 rfl rfl i7 dX2_sameRounds_55 ?_
        refine lv_i2l (v := (p_parts x4.toNatClampNeg).toInt64) hx hb dX2_sameRounds_56 rfl ?_
        refine lv_iload_n hx hb dX2_sameRounds_57 rfl (lv_at hl 0 rfl) ?_
        refine lv_i2l (v := s0.toInt64) hx hb dX2_sameRounds_58 rfl ?_
        refine lv_lmul hx hb dX2_sameRounds_59 ?_
        refine lv_lmul hx hb dX2_sameRounds_60 ?_
        refine lv_lstore_n (lv' := [(1, .long (x1 * ((p_parts x4.toNatClampNeg).toInt64 * s0.toInt64))), (3, .int s0), (0, .ref (ap 0)), (4, .int x4)]) hx hb dX2_sameRounds_61 rfl hl (by decide) rfl (fun ls hl => ?_)
        refine lv_iinc (v := (x4 + (1 : Int32))) (lv' := [(4, .int (x4 + (1 : Int32))), (1, .long (x1 * ((p_parts x4.toNatClampNeg).toInt64 * s0.toInt64))), (3, .int s0), (0, .ref (ap 0))]) hx hb dX2_sameRounds_62 hl (k := 3) rfl (by rfl) (by decide) rfl (fun ls hl => ?_)
        refine lv_goto (tgt := 7) hx hb dX2_sameRounds_65 (by decide) ?_
        exact ih7 (x1 * ((p_parts x4.toNatClampNeg).toInt64 * s0.toInt64)) s0 (x4 + (1 : Int32)) _ hq (lv_sub hl [3, 1, 2, 0] rfl)
      unfold q2_sameRounds_7 at hq
      refine lv_iload hx hb dX2_sameRounds_7 (lv_at hl 3 rfl) ?_
      refine lv_aload_n hx hb dX2_sameRounds_9 rfl (lv_at hl 0 rfl) ?_
      refine va_get (D := (dC, dI)) (ci := 2) (v := .int p_length) (C := RX2) (T := TX2) (N := 2) hx hb hts uwX2 hown hK hP 0 rfl rfl 1 (by decide) (hts _ fl_X2_15) (fun _ h9 => h9) rfl dX2_sameRounds_10 ?_
      refine lv_icmp_ge (tgt := 68) hx hb dX2_sameRounds_13 (by decide) (fun c8 => ?_) (fun c8 => ?_)
      · have hq := hq.1 c8
        refine lv_lload_n hx hb dX2_sameRounds_68 rfl (lv_at hl 1 rfl) ?_
        exact W.lret (v := x1) hx hb hr (fun t ht hW => ⟨x1, rfl, hq, ht⟩) (fun q h => absurd h List.not_mem_nil) dX2_sameRounds_69
      · have hq := hq.2 c8
        refine lv_iload hx hb dX2_sameRounds_16 (lv_at hl 3 rfl) ?_
        refine lv_if_le (tgt := 46) hx hb dX2_sameRounds_18 (by decide) (fun c9 => ?_) (fun c9 => ?_)
        · have hq := hq.1 c9
          refine lv_iconst (v := (1 : Int32)) hx hb dX2_sameRounds_46 (by decide) ?_
          exact B47 (1 : Int32) x1 x4 _ hq (lv_sub hl [0, 1, 3] rfl)
        · have hq := hq.2 c9
          refine lv_aload_n hx hb dX2_sameRounds_21 rfl (lv_at hl 0 rfl) ?_
          refine va_get (D := (dC, dI)) (ci := 2) (v := .ref (ap 1)) (C := RX2) (T := TX2) (N := 2) hx hb hts uwX2 hown hK hP 0 rfl rfl 0 (by decide) (hts _ fl_X2_9) (fun _ h9 => h9) rfl dX2_sameRounds_22 ?_
          refine lv_iload hx hb dX2_sameRounds_25 (lv_at hl 3 rfl) ?_
          obtain ⟨i10, hq⟩ := hq
          refine va_iald hx hb hK hP 1 0 rfl rfl i10 dX2_sameRounds_27 ?_
          refine lv_aload_n hx hb dX2_sameRounds_28 rfl (lv_at hl 0 rfl) ?_
          refine va_get (D := (dC, dI)) (ci := 2) (v := .ref (ap 1)) (C := RX2) (T := TX2) (N := 2) hx hb hts uwX2 hown hK hP 0 rfl rfl 0 (by decide) (hts _ fl_X2_9) (fun _ h9 => h9) rfl dX2_sameRounds_29 ?_
          refine lv_iload hx hb dX2_sameRounds_32 (lv_at hl 3 rfl) ?_
          refine lv_iconst (v := (1 : Int32)) hx hb dX2_sameRounds_34 (by decide) ?_
          refine lv_isub hx hb dX2_sameRounds_35 ?_
          obtain ⟨i11, hq⟩ := hq
          refine va_iald hx hb hK hP 1 0 rfl rfl i11 dX2_sameRounds_36 ?_
          refine lv_icmp_ne (tgt := 46) hx hb dX2_sameRounds_37 (by decide) (fun c12 => ?_) (fun c12 => ?_)
          · have hq := hq.1 c12
            refine lv_iconst (v := (1 : Int32)) hx hb dX2_sameRounds_46 (by decide) ?_
            exact B47 (1 : Int32) x1 x4 _ hq (lv_sub hl [0, 1, 3] rfl)
          · have hq := hq.2 c12
            refine lv_iload_n hx hb dX2_sameRounds_40 rfl (lv_at hl 2 rfl) ?_
            refine lv_iconst (v := (1 : Int32)) hx hb dX2_sameRounds_41 (by decide) ?_
            refine lv_iadd hx hb dX2_sameRounds_42 ?_
            refine lv_goto (tgt := 47) hx hb dX2_sameRounds_43 (by decide) ?_
            exact B47 (x3 + (1 : Int32)) x1 x4 _ hq (lv_sub hl [0, 1, 3] rfl)
  unfold q2_sameRounds at hq
  refine lv_lconst (v := (1 : Int64)) hx hb dX2_sameRounds_0 (by decide) ?_
  refine lv_lstore_n (lv' := [(1, .long (1 : Int64)), (0, .ref (ap 0))]) hx hb dX2_sameRounds_1 rfl hl (by decide) rfl (fun ls hl => ?_)
  refine lv_iconst (v := (0 : Int32)) hx hb dX2_sameRounds_2 (by decide) ?_
  refine lv_istore_n (lv' := [(3, .int (0 : Int32)), (1, .long (1 : Int64)), (0, .ref (ap 0))]) hx hb dX2_sameRounds_3 rfl hl (by decide) rfl (fun ls hl => ?_)
  refine lv_iconst (v := (0 : Int32)) hx hb dX2_sameRounds_4 (by decide) ?_
  refine lv_istore (lv' := [(4, .int (0 : Int32)), (3, .int (0 : Int32)), (1, .long (1 : Int64)), (0, .ref (ap 0))]) hx hb dX2_sameRounds_5 hl (by decide) rfl (fun ls hl => ?_)
  obtain ⟨kf, hq⟩ := hq
  exact B7 kf (1 : Int64) (0 : Int32) (0 : Int32) _ hq (lv_sub hl [3, 2, 1, 0] rfl)
set_option maxHeartbeats 4000000 in
set_option maxRecDepth 100000 in
theorem c2_turns (l : Launch) (dC : Nat → ClassId) (dI : Nat → Nat → Nat) (cs : Nat → ClassId) (ap : Nat → Nat) (p_parts : Nat → Int32) (p_length : Int32) {Q : Int32 → Prop} (hq : q2_turns p_parts p_length Q) : Met l yX2_turns (.code yX2_turns cX2_turns 3 (some .int) :: gt) ({ frames := 2, cells := 0, slots := 0, locals := 51 } : Room) (va_Pc [.ref (ap 0)] (Pr (dC, dI) (KA cs) (wX2 cs ap p_parts p_length))) (vp_Si Q) 0 0 (fun _ => False) := by
  refine Met.ofW (cc := cX2_turns) (maxL := 3) (ret := (some .int)) (by decide) rfl ?_
  intro p e s m args below meth c s₁ B hml hv
  obtain ⟨rfl, hP, hK, hN⟩ := hv
  have hx := B.exec
  have hb := B.bytes
  have hr := B.returns
  have hts0 := atoms_spec (ws := (.code yX2_turns cX2_turns 3 (some .int) :: gt)) B.pre
  have hts : ∀ w ∈ gt, w.before _ s = true := fun w h => hts0 w (List.mem_cons_of_mem _ h)
  have hown : s.vm.findClass RX2 = some m.cls := findClass_of_methodNamed B.named
  have hlocks := B.notSynchronized
  have hl := lv_entry ([.ref (ap 0)]) (n := 3) (Nat.le_of_ble_eq_true rfl)
  rw [lg_entry_eq]
  generalize (lg_sl ([.ref (ap 0)]) ++ List.replicate (3 - (lg_sl ([.ref (ap 0)])).length) Slot.unset).toArray = ls at hl ⊢
  have hl : lv_has ls 3 [(0, .ref (ap 0))] := hl
  have B4 : ∀ (k4 : Nat) (x1 : Int32) (x2 : Int32) (ls : Array Slot), q2_turns_4 p_parts p_length Q k4 x1 x2 → lv_has ls 3 [(0, .ref (ap 0)), (1, .int x1), (2, .int x2)] → W p l e ({ frames := 2, cells := 0, slots := 0, locals := 51 } : Room) s m ([.ref (ap 0)] : List Value).toArray below meth c s.heap [] 0 0 (MQ below (vp_Si Q) ([.ref (ap 0)] : List Value).toArray s 0 0 (fun _ => False)) (F0 m 4 ls []) := by
    intro k4
    induction k4 with
    | zero => intro x1 x2 ls hq; exact False.elim hq
    | succ k4 ih4 =>
      intro x1 x2 ls hq hl
      unfold q2_turns_4 at hq
      refine lv_iload_n hx hb dX2_turns_4 rfl (lv_at hl 2 rfl) ?_
      refine lv_aload_n hx hb dX2_turns_5 rfl (lv_at hl 0 rfl) ?_
      refine va_get (D := (dC, dI)) (ci := 2) (v := .int p_length) (C := RX2) (T := TX2) (N := 2) hx hb hts uwX2 hown hK hP 0 rfl rfl 1 (by decide) (hts _ fl_X2_15) (fun _ h9 => h9) rfl dX2_turns_6 ?_
      refine lv_icmp_ge (tgt := 29) hx hb dX2_turns_9 (by decide) (fun c4 => ?_) (fun c4 => ?_)
      · have hq := hq.1 c4
        refine lv_iload_n hx hb dX2_turns_29 rfl (lv_at hl 1 rfl) ?_
        exact W.iret (v := x1) hx hb hr (fun t ht hW => ⟨x1, rfl, hq, ht⟩) (fun q h => absurd h List.not_mem_nil) dX2_turns_30
      · have hq := hq.2 c4
        refine lv_iload_n hx hb dX2_turns_12 rfl (lv_at hl 1 rfl) ?_
        refine lv_aload_n hx hb dX2_turns_13 rfl (lv_at hl 0 rfl) ?_
        refine va_get (D := (dC, dI)) (ci := 2) (v := .ref (ap 1)) (C := RX2) (T := TX2) (N := 2) hx hb hts uwX2 hown hK hP 0 rfl rfl 0 (by decide) (hts _ fl_X2_9) (fun _ h9 => h9) rfl dX2_turns_14 ?_
        refine lv_iload_n hx hb dX2_turns_17 rfl (lv_at hl 2 rfl) ?_
        obtain ⟨i5, hq⟩ := hq
        refine va_iald hx hb hK hP 1 0 rfl rfl i5 dX2_turns_18 ?_
        refine roi (runSN ⟨hx, hb, hml, hown, hts⟩ ws_X6_commonMultiple (by decide +kernel) (c6_commonMultiple l dC dI cs   x1 (p_parts x2.toNatClampNeg) hq) ⟨⟨rfl, rfl⟩, by decide, by decide⟩ (preR va_P_nil hK hN) hN rfl hl.1 rfl (Nat.le_of_ble_eq_true rfl) dX2_turns_19 ⟨(Nat.le_of_ble_eq_true rfl), (Nat.le_of_ble_eq_true rfl)⟩) (fun r6 hq => ?_)
        refine lv_istore_n (lv' := [(1, .int r6), (0, .ref (ap 0)), (2, .int x2)]) hx hb dX2_turns_22 rfl hl (by decide) rfl (fun ls hl => ?_)
        refine lv_iinc (v := (x2 + (1 : Int32))) (lv' := [(2, .int (x2 + (1 : Int32))), (1, .int r6), (0, .ref (ap 0))]) hx hb dX2_turns_23 hl (k := 2) rfl (by rfl) (by decide) rfl (fun ls hl => ?_)
        refine lv_goto (tgt := 4) hx hb dX2_turns_26 (by decide) ?_
        exact ih4 r6 (x2 + (1 : Int32)) _ hq (lv_sub hl [2, 1, 0] rfl)
  unfold q2_turns at hq
  refine lv_iconst (v := (1 : Int32)) hx hb dX2_turns_0 (by decide) ?_
  refine lv_istore_n (lv' := [(1, .int (1 : Int32)), (0, .ref (ap 0))]) hx hb dX2_turns_1 rfl hl (by decide) rfl (fun ls hl => ?_)
  refine lv_iconst (v := (0 : Int32)) hx hb dX2_turns_2 (by decide) ?_
  refine lv_istore_n (lv' := [(2, .int (0 : Int32)), (1, .int (1 : Int32)), (0, .ref (ap 0))]) hx hb dX2_turns_3 rfl hl (by decide) rfl (fun ls hl => ?_)
  obtain ⟨kf, hq⟩ := hq
  exact B4 kf (1 : Int32) (0 : Int32) _ hq (lv_sub hl [2, 1, 0] rfl)
set_option maxHeartbeats 4000000 in
set_option maxRecDepth 100000 in
theorem c3_fillFactorials (l : Launch) (dC : Nat → ClassId) (dI : Nat → Nat → Nat) (cs : Nat → ClassId) (at_ : Nat → Nat) (rr : Nat → Nat) (ru : Nat → Nat) (sz : Nat) (t_fac : Nat → Int64) (t_der : Nat → Int64) (t_rec : Nat → Nat → Int64) (t_rut : Nat → Nat → Int64) (t_ris : Nat → Int64) {Q : (Nat → Int64) → Prop} (hq : q3_fillFactorials t_fac Q) : Met l yX3_fillFactorials (.code yX3_fillFactorials cX3_fillFactorials 2 none :: gt) ({ frames := 0, cells := 0, slots := 0, locals := 0 } : Room) (va_Pc [.ref (at_ 0)] (Pw (dC, dI) (KA cs) (wX3 cs at_ rr ru t_fac t_der t_rec t_rut t_ris) sz)) (va_Qv (fun (u : (Nat → Int64)) => Q u) (Bw (dC, dI) (KA cs) (va_A (wX3 cs at_ rr ru t_fac t_der t_rec t_rut t_ris) sz) (fun u : (Nat → Int64) => (wX3 cs at_ rr ru u t_der t_rec t_rut t_ris))) (va_A (wX3 cs at_ rr ru t_fac t_der t_rec t_rut t_ris) sz)) 0 0 (va_A (wX3 cs at_ rr ru t_fac t_der t_rec t_rut t_ris) sz) := by
  refine Met.ofW (cc := cX3_fillFactorials) (maxL := 2) (ret := none) (by decide) rfl ?_
  intro p e s m args below meth c s₁ B hml hv
  obtain ⟨rfl, hsz, hP, hK, hD0, hN⟩ := hv
  have hx := B.exec
  have hb := B.bytes
  have hr := B.returns
  have hts0 := atoms_spec (ws := (.code yX3_fillFactorials cX3_fillFactorials 2 none :: gt)) B.pre
  have hts : ∀ w ∈ gt, w.before _ s = true := fun w h => hts0 w (List.mem_cons_of_mem _ h)
  have hown : s.vm.findClass RX3 = some m.cls := findClass_of_methodNamed B.named
  have hlocks := B.notSynchronized
  subst hsz
  have hD := hD0.self (sz := s.heap.size)
  generalize hAe : va_A (wX3 cs at_ rr ru t_fac t_der t_rec t_rut t_ris) s.heap.size = A at hD ⊢
  have hA : ∀ q : Nat, s.heap.size ≤ q → A q := fun q h => by rw [← hAe]; exact Or.inr h
  have hS : va_S A s.heap s.heap [] := va_S.rf
  have hl := lv_entry ([.ref (at_ 0)]) (n := 2) (Nat.le_of_ble_eq_true rfl)
  rw [lg_entry_eq]
  generalize (lg_sl ([.ref (at_ 0)]) ++ List.replicate (2 - (lg_sl ([.ref (at_ 0)])).length) Slot.unset).toArray = ls at hl ⊢
  have hl : lv_has ls 2 [(0, .ref (at_ 0))] := hl
  have B9 : ∀ (k9 : Nat) (x1 : Int32) (t_fac : Nat → Int64) (H : Heap) (locs : List Loc) (ls : Array Slot), q3_fillFactorials_9 Q k9 x1 t_fac → va_P (dC, dI) vwCl (wX3 cs at_ rr ru t_fac t_der t_rec t_rut t_ris) H → va_D A (wX3 cs at_ rr ru t_fac t_der t_rec t_rut t_ris) → va_S A s.heap H locs → lv_has ls 2 [(0, .ref (at_ 0)), (1, .int x1)] → W p l e ({ frames := 0, cells := 0, slots := 0, locals := 0 } : Room) s m ([.ref (at_ 0)] : List Value).toArray below meth c H locs 0 0 (MQ below (va_Qv (fun (u : (Nat → Int64)) => Q u) (Bw (dC, dI) (KA cs) A (fun u : (Nat → Int64) => (wX3 cs at_ rr ru u t_der t_rec t_rut t_ris))) A) ([.ref (at_ 0)] : List Value).toArray s 0 0 A) (F0 m 9 ls []) := by
    intro k9
    induction k9 with
    | zero => intro x1 t_fac H locs ls hq; exact False.elim hq
    | succ k9 ih9 =>
      intro x1 t_fac H locs ls hq hP hD hS hl
      unfold q3_fillFactorials_9 at hq
      refine lv_iload_n hx hb dX3_fillFactorials_9 rfl (lv_at hl 1 rfl) ?_
      refine lv_bipush (v := (18 : Int32)) hx hb dX3_fillFactorials_10 (by decide) ?_
      refine lv_icmp_gt (tgt := 38) hx hb dX3_fillFactorials_12 (by decide) (fun c5 => ?_) (fun c5 => ?_)
      · have hq := hq.1 c5
        exact W.vret hx hb hr (fun t ht hW => ⟨⟨t_fac, rfl, hq, Bw_mk (by rw [ht]; exact hP) (va_K.moved hW.alike hK) hD⟩, hS.F ht⟩) hS.2.2 dX3_fillFactorials_38
      · have hq := hq.2 c5
        refine lv_aload_n hx hb dX3_fillFactorials_15 rfl (lv_at hl 0 rfl) ?_
        refine va_get (D := (dC, dI)) (ci := 3) (v := .ref (at_ 1)) (C := RX3) (T := TX3) (N := 5) hx hb hts uwX3 hown hK hP 0 rfl rfl 0 (by decide) (hts _ fl_X3_9) (fun _ h9 => h9) rfl dX3_fillFactorials_16 ?_
        refine lv_iload_n hx hb dX3_fillFactorials_19 rfl (lv_at hl 1 rfl) ?_
        refine lv_aload_n hx hb dX3_fillFactorials_20 rfl (lv_at hl 0 rfl) ?_
        refine va_get (D := (dC, dI)) (ci := 3) (v := .ref (at_ 1)) (C := RX3) (T := TX3) (N := 5) hx hb hts uwX3 hown hK hP 0 rfl rfl 0 (by decide) (hts _ fl_X3_9) (fun _ h9 => h9) rfl dX3_fillFactorials_21 ?_
        refine lv_iload_n hx hb dX3_fillFactorials_24 rfl (lv_at hl 1 rfl) ?_
        refine lv_iconst (v := (1 : Int32)) hx hb dX3_fillFactorials_25 (by decide) ?_
        refine lv_isub hx hb dX3_fillFactorials_26 ?_
        obtain ⟨i6, hq⟩ := hq
        refine va_lald hx hb hK hP 1 1 rfl rfl i6 dX3_fillFactorials_27 ?_
        refine lv_iload_n hx hb dX3_fillFactorials_28 rfl (lv_at hl 1 rfl) ?_
        refine lv_i2l (v := x1.toInt64) hx hb dX3_fillFactorials_29 rfl ?_
        refine lv_lmul hx hb dX3_fillFactorials_30 ?_
        obtain ⟨i7, hq⟩ := hq
        refine va_last hx hb hK hP hD hS 1 1 rfl rfl i7 dX3_fillFactorials_31 (fun H locs hP hD hS => ?_)
        have hP : va_P (dC, dI) vwCl (wX3 cs at_ rr ru (vp_updL t_fac x1.toNatClampNeg ((t_fac (x1 - (1 : Int32)).toNatClampNeg) * x1.toInt64)) t_der t_rec t_rut t_ris) H := hP
        have hD : va_D A (wX3 cs at_ rr ru (vp_updL t_fac x1.toNatClampNeg ((t_fac (x1 - (1 : Int32)).toNatClampNeg) * x1.toInt64)) t_der t_rec t_rut t_ris) := hD
        refine lv_iinc (v := (x1 + (1 : Int32))) (lv' := [(1, .int (x1 + (1 : Int32))), (0, .ref (at_ 0))]) hx hb dX3_fillFactorials_32 hl (k := 1) rfl (by rfl) (by decide) rfl (fun ls hl => ?_)
        refine lv_goto (tgt := 9) hx hb dX3_fillFactorials_35 (by decide) ?_
        exact ih9 (x1 + (1 : Int32)) (vp_updL t_fac x1.toNatClampNeg ((t_fac (x1 - (1 : Int32)).toNatClampNeg) * x1.toInt64)) _ _ _ hq hP hD hS (lv_sub hl [1, 0] rfl)
  unfold q3_fillFactorials at hq
  refine lv_aload_n hx hb dX3_fillFactorials_0 rfl (lv_at hl 0 rfl) ?_
  refine va_get (D := (dC, dI)) (ci := 3) (v := .ref (at_ 1)) (C := RX3) (T := TX3) (N := 5) hx hb hts uwX3 hown hK hP 0 rfl rfl 0 (by decide) (hts _ fl_X3_9) (fun _ h9 => h9) rfl dX3_fillFactorials_1 ?_
  refine lv_iconst (v := (0 : Int32)) hx hb dX3_fillFactorials_4 (by decide) ?_
  refine lv_lconst (v := (1 : Int64)) hx hb dX3_fillFactorials_5 (by decide) ?_
  obtain ⟨i8, hq⟩ := hq
  refine va_last hx hb hK hP hD hS 1 1 rfl rfl i8 dX3_fillFactorials_6 (fun H locs hP hD hS => ?_)
  have hP : va_P (dC, dI) vwCl (wX3 cs at_ rr ru (vp_updL t_fac (0 : Int32).toNatClampNeg (1 : Int64)) t_der t_rec t_rut t_ris) H := hP
  have hD : va_D A (wX3 cs at_ rr ru (vp_updL t_fac (0 : Int32).toNatClampNeg (1 : Int64)) t_der t_rec t_rut t_ris) := hD
  refine lv_iconst (v := (1 : Int32)) hx hb dX3_fillFactorials_7 (by decide) ?_
  refine lv_istore_n (lv' := [(1, .int (1 : Int32)), (0, .ref (at_ 0))]) hx hb dX3_fillFactorials_8 rfl hl (by decide) rfl (fun ls hl => ?_)
  obtain ⟨kf, hq⟩ := hq
  exact B9 kf (1 : Int32) (vp_updL t_fac (0 : Int32).toNatClampNeg (1 : Int64)) _ _ _ hq hP hD hS (lv_sub hl [1, 0] rfl)
set_option maxHeartbeats 4000000 in
set_option maxRecDepth 100000 in
theorem c3_fillDeranged (l : Launch) (dC : Nat → ClassId) (dI : Nat → Nat → Nat) (cs : Nat → ClassId) (at_ : Nat → Nat) (rr : Nat → Nat) (ru : Nat → Nat) (sz : Nat) (t_fac : Nat → Int64) (t_der : Nat → Int64) (t_rec : Nat → Nat → Int64) (t_rut : Nat → Nat → Int64) (t_ris : Nat → Int64) {Q : (Nat → Int64) → Prop} (hq : q3_fillDeranged t_der Q) : Met l yX3_fillDeranged (.code yX3_fillDeranged cX3_fillDeranged 2 none :: gt) ({ frames := 0, cells := 0, slots := 0, locals := 0 } : Room) (va_Pc [.ref (at_ 0)] (Pw (dC, dI) (KA cs) (wX3 cs at_ rr ru t_fac t_der t_rec t_rut t_ris) sz)) (va_Qv (fun (u : (Nat → Int64)) => Q u) (Bw (dC, dI) (KA cs) (va_A (wX3 cs at_ rr ru t_fac t_der t_rec t_rut t_ris) sz) (fun u : (Nat → Int64) => (wX3 cs at_ rr ru t_fac u t_rec t_rut t_ris))) (va_A (wX3 cs at_ rr ru t_fac t_der t_rec t_rut t_ris) sz)) 0 0 (va_A (wX3 cs at_ rr ru t_fac t_der t_rec t_rut t_ris) sz) := by
  refine Met.ofW (cc := cX3_fillDeranged) (maxL := 2) (ret := none) (by decide) rfl ?_
  intro p e s m args below meth c s₁ B hml hv
  obtain ⟨rfl, hsz, hP, hK, hD0, hN⟩ := hv
  have hx := B.exec
  have hb := B.bytes
  have hr := B.returns
  have hts0 := atoms_spec (ws := (.code yX3_fillDeranged cX3_fillDeranged 2 none :: gt)) B.pre
  have hts : ∀ w ∈ gt, w.before _ s = true := fun w h => hts0 w (List.mem_cons_of_mem _ h)
  have hown : s.vm.findClass RX3 = some m.cls := findClass_of_methodNamed B.named
  have hlocks := B.notSynchronized
  subst hsz
  have hD := hD0.self (sz := s.heap.size)
  generalize hAe : va_A (wX3 cs at_ rr ru t_fac t_der t_rec t_rut t_ris) s.heap.size = A at hD ⊢
  have hA : ∀ q : Nat, s.heap.size ≤ q → A q := fun q h => by rw [← hAe]; exact Or.inr h
  have hS : va_S A s.heap s.heap [] := va_S.rf
  have hl := lv_entry ([.ref (at_ 0)]) (n := 2) (Nat.le_of_ble_eq_true rfl)
  rw [lg_entry_eq]
  generalize (lg_sl ([.ref (at_ 0)]) ++ List.replicate (2 - (lg_sl ([.ref (at_ 0)])).length) Slot.unset).toArray = ls at hl ⊢
  have hl : lv_has ls 2 [(0, .ref (at_ 0))] := hl
  have B9 : ∀ (k9 : Nat) (x1 : Int32) (t_der : Nat → Int64) (H : Heap) (locs : List Loc) (ls : Array Slot), q3_fillDeranged_9 Q k9 x1 t_der → va_P (dC, dI) vwCl (wX3 cs at_ rr ru t_fac t_der t_rec t_rut t_ris) H → va_D A (wX3 cs at_ rr ru t_fac t_der t_rec t_rut t_ris) → va_S A s.heap H locs → lv_has ls 2 [(0, .ref (at_ 0)), (1, .int x1)] → W p l e ({ frames := 0, cells := 0, slots := 0, locals := 0 } : Room) s m ([.ref (at_ 0)] : List Value).toArray below meth c H locs 0 0 (MQ below (va_Qv (fun (u : (Nat → Int64)) => Q u) (Bw (dC, dI) (KA cs) A (fun u : (Nat → Int64) => (wX3 cs at_ rr ru t_fac u t_rec t_rut t_ris))) A) ([.ref (at_ 0)] : List Value).toArray s 0 0 A) (F0 m 9 ls []) := by
    intro k9
    induction k9 with
    | zero => intro x1 t_der H locs ls hq; exact False.elim hq
    | succ k9 ih9 =>
      intro x1 t_der H locs ls hq hP hD hS hl
      unfold q3_fillDeranged_9 at hq
      refine lv_iload_n hx hb dX3_fillDeranged_9 rfl (lv_at hl 1 rfl) ?_
      refine lv_bipush (v := (18 : Int32)) hx hb dX3_fillDeranged_10 (by decide) ?_
      refine lv_icmp_gt (tgt := 49) hx hb dX3_fillDeranged_12 (by decide) (fun c6 => ?_) (fun c6 => ?_)
      · have hq := hq.1 c6
        exact W.vret hx hb hr (fun t ht hW => ⟨⟨t_der, rfl, hq, Bw_mk (by rw [ht]; exact hP) (va_K.moved hW.alike hK) hD⟩, hS.F ht⟩) hS.2.2 dX3_fillDeranged_49
      · have hq := hq.2 c6
        refine lv_aload_n hx hb dX3_fillDeranged_15 rfl (lv_at hl 0 rfl) ?_
        refine va_get (D := (dC, dI)) (ci := 3) (v := .ref (at_ 2)) (C := RX3) (T := TX3) (N := 5) hx hb hts uwX3 hown hK hP 0 rfl rfl 1 (by decide) (hts _ fl_X3_15) (fun _ h9 => h9) rfl dX3_fillDeranged_16 ?_
        refine lv_iload_n hx hb dX3_fillDeranged_19 rfl (lv_at hl 1 rfl) ?_
        refine lv_iload_n hx hb dX3_fillDeranged_20 rfl (lv_at hl 1 rfl) ?_
        refine lv_iconst (v := (1 : Int32)) hx hb dX3_fillDeranged_21 (by decide) ?_
        refine lv_isub hx hb dX3_fillDeranged_22 ?_
        refine lv_i2l (v := (x1 - (1 : Int32)).toInt64) hx hb dX3_fillDeranged_23 rfl ?_
        refine lv_aload_n hx hb dX3_fillDeranged_24 rfl (lv_at hl 0 rfl) ?_
        refine va_get (D := (dC, dI)) (ci := 3) (v := .ref (at_ 2)) (C := RX3) (T := TX3) (N := 5) hx hb hts uwX3 hown hK hP 0 rfl rfl 1 (by decide) (hts _ fl_X3_15) (fun _ h9 => h9) rfl dX3_fillDeranged_25 ?_
        refine lv_iload_n hx hb dX3_fillDeranged_28 rfl (lv_at hl 1 rfl) ?_
        refine lv_iconst (v := (1 : Int32)) hx hb dX3_fillDeranged_29 (by decide) ?_
        refine lv_isub hx hb dX3_fillDeranged_30 ?_
        obtain ⟨i7, hq⟩ := hq
        refine va_lald hx hb hK hP 2 1 rfl rfl i7 dX3_fillDeranged_31 ?_
        refine lv_aload_n hx hb dX3_fillDeranged_32 rfl (lv_at hl 0 rfl) ?_
        refine va_get (D := (dC, dI)) (ci := 3) (v := .ref (at_ 2)) (C := RX3) (T := TX3) (N := 5) hx hb hts uwX3 hown hK hP 0 rfl rfl 1 (by decide) (hts _ fl_X3_15) (fun _ h9 => h9) rfl dX3_fillDeranged_33 ?_
        refine lv_iload_n hx hb dX3_fillDeranged_36 rfl (lv_at hl 1 rfl) ?_
        refine lv_iconst (v := (2 : Int32)) hx hb dX3_fillDeranged_37 (by decide) ?_
        refine lv_isub hx hb dX3_fillDeranged_38 ?_
        obtain ⟨i8, hq⟩ := hq
        refine va_lald hx hb hK hP 2 1 rfl rfl i8 dX3_fillDeranged_39 ?_
        refine lv_ladd hx hb dX3_fillDeranged_40 ?_
        refine lv_lmul hx hb dX3_fillDeranged_41 ?_
        obtain ⟨i9, hq⟩ := hq
        refine va_last hx hb hK hP hD hS 2 1 rfl rfl i9 dX3_fillDeranged_42 (fun H locs hP hD hS => ?_)
        have hP : va_P (dC, dI) vwCl (wX3 cs at_ rr ru t_fac (vp_updL t_der x1.toNatClampNeg ((x1 - (1 : Int32)).toInt64 * ((t_der (x1 - (1 : Int32)).toNatClampNeg) + (t_der (x1 - (2 : Int32)).toNatClampNeg)))) t_rec t_rut t_ris) H := hP
        have hD : va_D A (wX3 cs at_ rr ru t_fac (vp_updL t_der x1.toNatClampNeg ((x1 - (1 : Int32)).toInt64 * ((t_der (x1 - (1 : Int32)).toNatClampNeg) + (t_der (x1 - (2 : Int32)).toNatClampNeg)))) t_rec t_rut t_ris) := hD
        refine lv_iinc (v := (x1 + (1 : Int32))) (lv' := [(1, .int (x1 + (1 : Int32))), (0, .ref (at_ 0))]) hx hb dX3_fillDeranged_43 hl (k := 1) rfl (by rfl) (by decide) rfl (fun ls hl => ?_)
        refine lv_goto (tgt := 9) hx hb dX3_fillDeranged_46 (by decide) ?_
        exact ih9 (x1 + (1 : Int32)) (vp_updL t_der x1.toNatClampNeg ((x1 - (1 : Int32)).toInt64 * ((t_der (x1 - (1 : Int32)).toNatClampNeg) + (t_der (x1 - (2 : Int32)).toNatClampNeg)))) _ _ _ hq hP hD hS (lv_sub hl [1, 0] rfl)
  unfold q3_fillDeranged at hq
  refine lv_aload_n hx hb dX3_fillDeranged_0 rfl (lv_at hl 0 rfl) ?_
  refine va_get (D := (dC, dI)) (ci := 3) (v := .ref (at_ 2)) (C := RX3) (T := TX3) (N := 5) hx hb hts uwX3 hown hK hP 0 rfl rfl 1 (by decide) (hts _ fl_X3_15) (fun _ h9 => h9) rfl dX3_fillDeranged_1 ?_
  refine lv_iconst (v := (0 : Int32)) hx hb dX3_fillDeranged_4 (by decide) ?_
  refine lv_lconst (v := (1 : Int64)) hx hb dX3_fillDeranged_5 (by decide) ?_
  obtain ⟨i10, hq⟩ := hq
  refine va_last hx hb hK hP hD hS 2 1 rfl rfl i10 dX3_fillDeranged_6 (fun H locs hP hD hS => ?_)
  have hP : va_P (dC, dI) vwCl (wX3 cs at_ rr ru t_fac (vp_updL t_der (0 : Int32).toNatClampNeg (1 : Int64)) t_rec t_rut t_ris) H := hP
  have hD : va_D A (wX3 cs at_ rr ru t_fac (vp_updL t_der (0 : Int32).toNatClampNeg (1 : Int64)) t_rec t_rut t_ris) := hD
  refine lv_iconst (v := (2 : Int32)) hx hb dX3_fillDeranged_7 (by decide) ?_
  refine lv_istore_n (lv' := [(1, .int (2 : Int32)), (0, .ref (at_ 0))]) hx hb dX3_fillDeranged_8 rfl hl (by decide) rfl (fun ls hl => ?_)
  obtain ⟨kf, hq⟩ := hq
  exact B9 kf (2 : Int32) (vp_updL t_der (0 : Int32).toNatClampNeg (1 : Int64)) _ _ _ hq hP hD hS (lv_sub hl [1, 0] rfl)
set_option maxHeartbeats 4000000 in
set_option maxRecDepth 100000 in
theorem c3_fillRecords (l : Launch) (dC : Nat → ClassId) (dI : Nat → Nat → Nat) (cs : Nat → ClassId) (at_ : Nat → Nat) (rr : Nat → Nat) (ru : Nat → Nat) (sz : Nat) (t_fac : Nat → Int64) (t_der : Nat → Int64) (t_rec : Nat → Nat → Int64) (t_rut : Nat → Nat → Int64) (t_ris : Nat → Int64) {Q : (Nat → Nat → Int64) → Prop} (hq : q3_fillRecords t_rec Q) : Met l yX3_fillRecords (.code yX3_fillRecords cX3_fillRecords 3 none :: gt) ({ frames := 0, cells := 0, slots := 0, locals := 0 } : Room) (va_Pc [.ref (at_ 0)] (Pw (dC, dI) (KA cs) (wX3 cs at_ rr ru t_fac t_der t_rec t_rut t_ris) sz)) (va_Qv (fun (u : (Nat → Nat → Int64)) => Q u) (Bw (dC, dI) (KA cs) (va_A (wX3 cs at_ rr ru t_fac t_der t_rec t_rut t_ris) sz) (fun u : (Nat → Nat → Int64) => (wX3 cs at_ rr ru t_fac t_der u t_rut t_ris))) (va_A (wX3 cs at_ rr ru t_fac t_der t_rec t_rut t_ris) sz)) 0 0 (va_A (wX3 cs at_ rr ru t_fac t_der t_rec t_rut t_ris) sz) := by
  refine Met.ofW (cc := cX3_fillRecords) (maxL := 3) (ret := none) (by decide) rfl ?_
  intro p e s m args below meth c s₁ B hml hv
  obtain ⟨rfl, hsz, hP, hK, hD0, hN⟩ := hv
  have hx := B.exec
  have hb := B.bytes
  have hr := B.returns
  have hts0 := atoms_spec (ws := (.code yX3_fillRecords cX3_fillRecords 3 none :: gt)) B.pre
  have hts : ∀ w ∈ gt, w.before _ s = true := fun w h => hts0 w (List.mem_cons_of_mem _ h)
  have hown : s.vm.findClass RX3 = some m.cls := findClass_of_methodNamed B.named
  have hlocks := B.notSynchronized
  subst hsz
  have hD := hD0.self (sz := s.heap.size)
  generalize hAe : va_A (wX3 cs at_ rr ru t_fac t_der t_rec t_rut t_ris) s.heap.size = A at hD ⊢
  have hA : ∀ q : Nat, s.heap.size ≤ q → A q := fun q h => by rw [← hAe]; exact Or.inr h
  have hS : va_S A s.heap s.heap [] := va_S.rf
  have hl := lv_entry ([.ref (at_ 0)]) (n := 3) (Nat.le_of_ble_eq_true rfl)
  rw [lg_entry_eq]
  generalize (lg_sl ([.ref (at_ 0)]) ++ List.replicate (3 - (lg_sl ([.ref (at_ 0)])).length) Slot.unset).toArray = ls at hl ⊢
  have hl : lv_has ls 3 [(0, .ref (at_ 0))] := hl
  have B11 : ∀ (k11 : Nat) (x1 : Int32) (t_rec : Nat → Nat → Int64) (H : Heap) (locs : List Loc) (ls : Array Slot), q3_fillRecords_11 Q k11 x1 t_rec → va_P (dC, dI) vwCl (wX3 cs at_ rr ru t_fac t_der t_rec t_rut t_ris) H → va_D A (wX3 cs at_ rr ru t_fac t_der t_rec t_rut t_ris) → va_S A s.heap H locs → lv_has ls 3 [(0, .ref (at_ 0)), (1, .int x1)] → W p l e ({ frames := 0, cells := 0, slots := 0, locals := 0 } : Room) s m ([.ref (at_ 0)] : List Value).toArray below meth c H locs 0 0 (MQ below (va_Qv (fun (u : (Nat → Nat → Int64)) => Q u) (Bw (dC, dI) (KA cs) A (fun u : (Nat → Nat → Int64) => (wX3 cs at_ rr ru t_fac t_der u t_rut t_ris))) A) ([.ref (at_ 0)] : List Value).toArray s 0 0 A) (F0 m 11 ls []) := by
    intro k11
    induction k11 with
    | zero => intro x1 t_rec H locs ls hq; exact False.elim hq
    | succ k11 ih11 =>
      intro x1 t_rec H locs ls hq hP hD hS hl
      have B66 : ∀ (x1 : Int32) (t_rec : Nat → Nat → Int64) (H : Heap) (locs : List Loc) (ls : Array Slot), q3_fillRecords_66 (fun v0 v1 => q3_fillRecords_11 Q k11 v0 v1) Q x1 t_rec → va_P (dC, dI) vwCl (wX3 cs at_ rr ru t_fac t_der t_rec t_rut t_ris) H → va_D A (wX3 cs at_ rr ru t_fac t_der t_rec t_rut t_ris) → va_S A s.heap H locs → lv_has ls 3 [(0, .ref (at_ 0)), (1, .int x1)] → W p l e ({ frames := 0, cells := 0, slots := 0, locals := 0 } : Room) s m ([.ref (at_ 0)] : List Value).toArray below meth c H locs 0 0 (MQ below (va_Qv (fun (u : (Nat → Nat → Int64)) => Q u) (Bw (dC, dI) (KA cs) A (fun u : (Nat → Nat → Int64) => (wX3 cs at_ rr ru t_fac t_der u t_rut t_ris))) A) ([.ref (at_ 0)] : List Value).toArray s 0 0 A) (F0 m 66 ls []) := by
        intro x1 t_rec H locs ls hq hP hD hS hl
        unfold q3_fillRecords_66 at hq
        refine lv_iinc (v := (x1 + (1 : Int32))) (lv' := [(1, .int (x1 + (1 : Int32))), (0, .ref (at_ 0))]) hx hb dX3_fillRecords_66 hl (k := 1) rfl (by rfl) (by decide) rfl (fun ls hl => ?_)
        refine lv_goto (tgt := 11) hx hb dX3_fillRecords_69 (by decide) ?_
        exact ih11 (x1 + (1 : Int32)) t_rec _ _ _ hq hP hD hS (lv_sub hl [1, 0] rfl)
      have B19 : ∀ (k19 : Nat) (x1 : Int32) (x2 : Int32) (t_rec : Nat → Nat → Int64) (H : Heap) (locs : List Loc) (ls : Array Slot), q3_fillRecords_19 (fun v0 v1 => q3_fillRecords_11 Q k11 v0 v1) Q k19 x1 x2 t_rec → va_P (dC, dI) vwCl (wX3 cs at_ rr ru t_fac t_der t_rec t_rut t_ris) H → va_D A (wX3 cs at_ rr ru t_fac t_der t_rec t_rut t_ris) → va_S A s.heap H locs → lv_has ls 3 [(0, .ref (at_ 0)), (1, .int x1), (2, .int x2)] → W p l e ({ frames := 0, cells := 0, slots := 0, locals := 0 } : Room) s m ([.ref (at_ 0)] : List Value).toArray below meth c H locs 0 0 (MQ below (va_Qv (fun (u : (Nat → Nat → Int64)) => Q u) (Bw (dC, dI) (KA cs) A (fun u : (Nat → Nat → Int64) => (wX3 cs at_ rr ru t_fac t_der u t_rut t_ris))) A) ([.ref (at_ 0)] : List Value).toArray s 0 0 A) (F0 m 19 ls []) := by
        intro k19
        induction k19 with
        | zero => intro x1 x2 t_rec H locs ls hq; exact False.elim hq
        | succ k19 ih19 =>
          intro x1 x2 t_rec H locs ls hq hP hD hS hl
          unfold q3_fillRecords_19 at hq
          refine lv_iload_n hx hb dX3_fillRecords_19 rfl (lv_at hl 2 rfl) ?_
          refine lv_iload_n hx hb dX3_fillRecords_20 rfl (lv_at hl 1 rfl) ?_
          refine lv_icmp_gt (tgt := 66) hx hb dX3_fillRecords_21 (by decide) (fun c11 => ?_) (fun c11 => ?_)
          · have hq := hq.1 c11
            exact B66 x1 t_rec _ _ _ hq hP hD hS (lv_sub hl [0, 1] rfl)
          · have hq := hq.2 c11
            refine lv_aload_n hx hb dX3_fillRecords_24 rfl (lv_at hl 0 rfl) ?_
            refine va_get (D := (dC, dI)) (ci := 3) (v := .ref (at_ 3)) (C := RX3) (T := TX3) (N := 5) hx hb hts uwX3 hown hK hP 0 rfl rfl 2 (by decide) (hts _ fl_X3_20) (fun _ h9 => h9) rfl dX3_fillRecords_25 ?_
            refine lv_iload_n hx hb dX3_fillRecords_28 rfl (lv_at hl 1 rfl) ?_
            obtain ⟨i12, hq⟩ := hq
            refine va_alda hx hb hK hP 3 6 rfl rfl i12 dX3_fillRecords_29 ?_
            refine W.eq (g2 := F0 m 30 ls (.ref (rr x1.toNatClampNeg) :: [])) rfl ?_
            refine lv_iload_n hx hb dX3_fillRecords_30 rfl (lv_at hl 2 rfl) ?_
            refine lv_aload_n hx hb dX3_fillRecords_31 rfl (lv_at hl 0 rfl) ?_
            refine va_get (D := (dC, dI)) (ci := 3) (v := .ref (at_ 3)) (C := RX3) (T := TX3) (N := 5) hx hb hts uwX3 hown hK hP 0 rfl rfl 2 (by decide) (hts _ fl_X3_20) (fun _ h9 => h9) rfl dX3_fillRecords_32 ?_
            refine lv_iload_n hx hb dX3_fillRecords_35 rfl (lv_at hl 1 rfl) ?_
            refine lv_iconst (v := (1 : Int32)) hx hb dX3_fillRecords_36 (by decide) ?_
            refine lv_isub hx hb dX3_fillRecords_37 ?_
            obtain ⟨i13, hq⟩ := hq
            refine va_alda hx hb hK hP 3 6 rfl rfl i13 dX3_fillRecords_38 ?_
            refine W.eq (g2 := F0 m 39 ls (.ref (rr (x1 - (1 : Int32)).toNatClampNeg) :: [.int x2, .ref (rr x1.toNatClampNeg)])) rfl ?_
            refine lv_iload_n hx hb dX3_fillRecords_39 rfl (lv_at hl 2 rfl) ?_
            refine lv_iconst (v := (1 : Int32)) hx hb dX3_fillRecords_40 (by decide) ?_
            refine lv_isub hx hb dX3_fillRecords_41 ?_
            obtain ⟨i14, hq⟩ := hq
            refine va_lald hx hb hK hP (6 + (x1 - (1 : Int32)).toNatClampNeg) 1 (fam_get_wX3_6 (vp_lt i13)) rfl i14 dX3_fillRecords_42 ?_
            refine lv_iload_n hx hb dX3_fillRecords_43 rfl (lv_at hl 1 rfl) ?_
            refine lv_iconst (v := (1 : Int32)) hx hb dX3_fillRecords_44 (by decide) ?_
            refine lv_isub hx hb dX3_fillRecords_45 ?_
            refine lv_i2l (v := (x1 - (1 : Int32)).toInt64) hx hb dX3_fillRecords_46 rfl ?_
            refine lv_aload_n hx hb dX3_fillRecords_47 rfl (lv_at hl 0 rfl) ?_
            refine va_get (D := (dC, dI)) (ci := 3) (v := .ref (at_ 3)) (C := RX3) (T := TX3) (N := 5) hx hb hts uwX3 hown hK hP 0 rfl rfl 2 (by decide) (hts _ fl_X3_20) (fun _ h9 => h9) rfl dX3_fillRecords_48 ?_
            refine lv_iload_n hx hb dX3_fillRecords_51 rfl (lv_at hl 1 rfl) ?_
            refine lv_iconst (v := (1 : Int32)) hx hb dX3_fillRecords_52 (by decide) ?_
            refine lv_isub hx hb dX3_fillRecords_53 ?_
            obtain ⟨i15, hq⟩ := hq
            refine va_alda hx hb hK hP 3 6 rfl rfl i15 dX3_fillRecords_54 ?_
            refine W.eq (g2 := F0 m 55 ls (.ref (rr (x1 - (1 : Int32)).toNatClampNeg) :: [.long ((x1 - (1 : Int32)).toInt64), .long ((t_rec (x1 - (1 : Int32)).toNatClampNeg) (x2 - (1 : Int32)).toNatClampNeg), .int x2, .ref (rr x1.toNatClampNeg)])) rfl ?_
            refine lv_iload_n hx hb dX3_fillRecords_55 rfl (lv_at hl 2 rfl) ?_
            obtain ⟨i16, hq⟩ := hq
            refine va_lald hx hb hK hP (6 + (x1 - (1 : Int32)).toNatClampNeg) 1 (fam_get_wX3_6 (vp_lt i15)) rfl i16 dX3_fillRecords_56 ?_
            refine lv_lmul hx hb dX3_fillRecords_57 ?_
            refine lv_ladd hx hb dX3_fillRecords_58 ?_
            obtain ⟨i17, hq⟩ := hq
            refine va_last hx hb hK hP hD hS (6 + x1.toNatClampNeg) 1 (fam_get_wX3_6 (vp_lt i12)) rfl i17 dX3_fillRecords_59 (fun H locs hP hD hS => ?_)
            rw [fam_set_wX3_6 (vp_lt i12)] at hP hD
            have hP : va_P (dC, dI) vwCl (wX3 cs at_ rr ru t_fac t_der (va_up t_rec x1.toNatClampNeg (vp_updL (t_rec x1.toNatClampNeg) x2.toNatClampNeg (((t_rec (x1 - (1 : Int32)).toNatClampNeg) (x2 - (1 : Int32)).toNatClampNeg) + ((x1 - (1 : Int32)).toInt64 * ((t_rec (x1 - (1 : Int32)).toNatClampNeg) x2.toNatClampNeg))))) t_rut t_ris) H := hP
            have hD : va_D A (wX3 cs at_ rr ru t_fac t_der (va_up t_rec x1.toNatClampNeg (vp_updL (t_rec x1.toNatClampNeg) x2.toNatClampNeg (((t_rec (x1 - (1 : Int32)).toNatClampNeg) (x2 - (1 : Int32)).toNatClampNeg) + ((x1 - (1 : Int32)).toInt64 * ((t_rec (x1 - (1 : Int32)).toNatClampNeg) x2.toNatClampNeg))))) t_rut t_ris) := hD
            refine lv_iinc (v := (x2 + (1 : Int32))) (lv' := [(2, .int (x2 + (1 : Int32))), (0, .ref (at_ 0)), (1, .int x1)]) hx hb dX3_fillRecords_60 hl (k := 2) rfl (by rfl) (by decide) rfl (fun ls hl => ?_)
            refine lv_goto (tgt := 19) hx hb dX3_fillRecords_63 (by decide) ?_
            exact ih19 x1 (x2 + (1 : Int32)) (va_up t_rec x1.toNatClampNeg (vp_updL (t_rec x1.toNatClampNeg) x2.toNatClampNeg (((t_rec (x1 - (1 : Int32)).toNatClampNeg) (x2 - (1 : Int32)).toNatClampNeg) + ((x1 - (1 : Int32)).toInt64 * ((t_rec (x1 - (1 : Int32)).toNatClampNeg) x2.toNatClampNeg))))) _ _ _ hq hP hD hS (lv_sub hl [1, 2, 0] rfl)
      unfold q3_fillRecords_11 at hq
      refine lv_iload_n hx hb dX3_fillRecords_11 rfl (lv_at hl 1 rfl) ?_
      refine lv_bipush (v := (18 : Int32)) hx hb dX3_fillRecords_12 (by decide) ?_
      refine lv_icmp_gt (tgt := 72) hx hb dX3_fillRecords_14 (by decide) (fun c18 => ?_) (fun c18 => ?_)
      · have hq := hq.1 c18
        exact W.vret hx hb hr (fun t ht hW => ⟨⟨t_rec, rfl, hq, Bw_mk (by rw [ht]; exact hP) (va_K.moved hW.alike hK) hD⟩, hS.F ht⟩) hS.2.2 dX3_fillRecords_72
      · have hq := hq.2 c18
        refine lv_iconst (v := (1 : Int32)) hx hb dX3_fillRecords_17 (by decide) ?_
        refine lv_istore_n (lv' := [(2, .int (1 : Int32)), (0, .ref (at_ 0)), (1, .int x1)]) hx hb dX3_fillRecords_18 rfl hl (by decide) rfl (fun ls hl => ?_)
        obtain ⟨kf, hq⟩ := hq
        exact B19 kf x1 (1 : Int32) t_rec _ _ _ hq hP hD hS (lv_sub hl [1, 2, 0] rfl)
  unfold q3_fillRecords at hq
  refine lv_aload_n hx hb dX3_fillRecords_0 rfl (lv_at hl 0 rfl) ?_
  refine va_get (D := (dC, dI)) (ci := 3) (v := .ref (at_ 3)) (C := RX3) (T := TX3) (N := 5) hx hb hts uwX3 hown hK hP 0 rfl rfl 2 (by decide) (hts _ fl_X3_20) (fun _ h9 => h9) rfl dX3_fillRecords_1 ?_
  refine lv_iconst (v := (0 : Int32)) hx hb dX3_fillRecords_4 (by decide) ?_
  obtain ⟨i19, hq⟩ := hq
  refine va_alda hx hb hK hP 3 6 rfl rfl i19 dX3_fillRecords_5 ?_
  refine W.eq (g2 := F0 m 6 ls (.ref (rr (0 : Int32).toNatClampNeg) :: [])) rfl ?_
  refine lv_iconst (v := (0 : Int32)) hx hb dX3_fillRecords_6 (by decide) ?_
  refine lv_lconst (v := (1 : Int64)) hx hb dX3_fillRecords_7 (by decide) ?_
  obtain ⟨i20, hq⟩ := hq
  refine va_last hx hb hK hP hD hS (6 + (0 : Int32).toNatClampNeg) 1 (fam_get_wX3_6 (vp_lt i19)) rfl i20 dX3_fillRecords_8 (fun H locs hP hD hS => ?_)
  rw [fam_set_wX3_6 (vp_lt i19)] at hP hD
  have hP : va_P (dC, dI) vwCl (wX3 cs at_ rr ru t_fac t_der (va_up t_rec (0 : Int32).toNatClampNeg (vp_updL (t_rec (0 : Int32).toNatClampNeg) (0 : Int32).toNatClampNeg (1 : Int64))) t_rut t_ris) H := hP
  have hD : va_D A (wX3 cs at_ rr ru t_fac t_der (va_up t_rec (0 : Int32).toNatClampNeg (vp_updL (t_rec (0 : Int32).toNatClampNeg) (0 : Int32).toNatClampNeg (1 : Int64))) t_rut t_ris) := hD
  refine lv_iconst (v := (1 : Int32)) hx hb dX3_fillRecords_9 (by decide) ?_
  refine lv_istore_n (lv' := [(1, .int (1 : Int32)), (0, .ref (at_ 0))]) hx hb dX3_fillRecords_10 rfl hl (by decide) rfl (fun ls hl => ?_)
  obtain ⟨kf, hq⟩ := hq
  exact B11 kf (1 : Int32) (va_up t_rec (0 : Int32).toNatClampNeg (vp_updL (t_rec (0 : Int32).toNatClampNeg) (0 : Int32).toNatClampNeg (1 : Int64))) _ _ _ hq hP hD hS (lv_sub hl [1, 0] rfl)
set_option maxHeartbeats 4000000 in
set_option maxRecDepth 100000 in
theorem c3_sumByRoundOfLast (l : Launch) (dC : Nat → ClassId) (dI : Nat → Nat → Nat) (cs : Nat → ClassId) (at_ : Nat → Nat) (rr : Nat → Nat) (ru : Nat → Nat) (t_fac : Nat → Int64) (t_der : Nat → Int64) (t_rec : Nat → Nat → Int64) (t_rut : Nat → Nat → Int64) (t_ris : Nat → Int64) (a1 : Int32) (a2 : Int32) {Q : Int64 → Prop} (hq : q3_sumByRoundOfLast t_rut a1 a2 Q) : Met l yX3_sumByRoundOfLast (.code yX3_sumByRoundOfLast cX3_sumByRoundOfLast 8 (some .long) :: gt) ({ frames := 0, cells := 0, slots := 0, locals := 0 } : Room) (va_Pc [.ref (at_ 0), .int a1, .int a2] (Pr (dC, dI) (KA cs) (wX3 cs at_ rr ru t_fac t_der t_rec t_rut t_ris))) (vp_Sl Q) 0 0 (fun _ => False) := by
  refine Met.ofW (cc := cX3_sumByRoundOfLast) (maxL := 8) (ret := (some .long)) (by decide) rfl ?_
  intro p e s m args below meth c s₁ B hml hv
  obtain ⟨rfl, hP, hK, hN⟩ := hv
  have hx := B.exec
  have hb := B.bytes
  have hr := B.returns
  have hts0 := atoms_spec (ws := (.code yX3_sumByRoundOfLast cX3_sumByRoundOfLast 8 (some .long) :: gt)) B.pre
  have hts : ∀ w ∈ gt, w.before _ s = true := fun w h => hts0 w (List.mem_cons_of_mem _ h)
  have hown : s.vm.findClass RX3 = some m.cls := findClass_of_methodNamed B.named
  have hlocks := B.notSynchronized
  have hl := lv_entry ([.ref (at_ 0), .int a1, .int a2]) (n := 8) (Nat.le_of_ble_eq_true rfl)
  rw [lg_entry_eq]
  generalize (lg_sl ([.ref (at_ 0), .int a1, .int a2]) ++ List.replicate (8 - (lg_sl ([.ref (at_ 0), .int a1, .int a2])).length) Slot.unset).toArray = ls at hl ⊢
  have hl : lv_has ls 8 [(0, .ref (at_ 0)), (1, .int a1), (2, .int a2)] := hl
  have B8 : ∀ (k8 : Nat) (x1 : Int32) (x2 : Int32) (x3 : Int64) (x5 : Int64) (x7 : Int32) (ls : Array Slot), q3_sumByRoundOfLast_8 t_rut Q k8 x1 x2 x3 x5 x7 → lv_has ls 8 [(0, .ref (at_ 0)), (1, .int x1), (2, .int x2), (3, .long x3), (5, .long x5), (7, .int x7)] → W p l e ({ frames := 0, cells := 0, slots := 0, locals := 0 } : Room) s m ([.ref (at_ 0), .int a1, .int a2] : List Value).toArray below meth c s.heap [] 0 0 (MQ below (vp_Sl Q) ([.ref (at_ 0), .int a1, .int a2] : List Value).toArray s 0 0 (fun _ => False)) (F0 m 8 ls []) := by
    intro k8
    induction k8 with
    | zero => intro x1 x2 x3 x5 x7 ls hq; exact False.elim hq
    | succ k8 ih8 =>
      intro x1 x2 x3 x5 x7 ls hq hl
      unfold q3_sumByRoundOfLast_8 at hq
      refine lv_iload hx hb dX3_sumByRoundOfLast_8 (lv_at hl 5 rfl) ?_
      refine lv_iload_n hx hb dX3_sumByRoundOfLast_10 rfl (lv_at hl 2 rfl) ?_
      refine lv_icmp_gt (tgt := 53) hx hb dX3_sumByRoundOfLast_11 (by decide) (fun c5 => ?_) (fun c5 => ?_)
      · have hq := hq.1 c5
        refine lv_lload_n hx hb dX3_sumByRoundOfLast_53 rfl (lv_at hl 3 rfl) ?_
        exact W.lret (v := x3) hx hb hr (fun t ht hW => ⟨x3, rfl, hq, ht⟩) (fun q h => absurd h List.not_mem_nil) dX3_sumByRoundOfLast_54
      · have hq := hq.2 c5
        refine lv_iload hx hb dX3_sumByRoundOfLast_14 (lv_at hl 5 rfl) ?_
        refine lv_iload_n hx hb dX3_sumByRoundOfLast_16 rfl (lv_at hl 1 rfl) ?_
        refine lv_icmp_gt (tgt := 53) hx hb dX3_sumByRoundOfLast_17 (by decide) (fun c6 => ?_) (fun c6 => ?_)
        · have hq := hq.1 c6
          refine lv_lload_n hx hb dX3_sumByRoundOfLast_53 rfl (lv_at hl 3 rfl) ?_
          exact W.lret (v := x3) hx hb hr (fun t ht hW => ⟨x3, rfl, hq, ht⟩) (fun q h => absurd h List.not_mem_nil) dX3_sumByRoundOfLast_54
        · have hq := hq.2 c6
          refine lv_lload_n hx hb dX3_sumByRoundOfLast_20 rfl (lv_at hl 3 rfl) ?_
          refine lv_lload hx hb dX3_sumByRoundOfLast_21 (lv_at hl 4 rfl) ?_
          refine lv_aload_n hx hb dX3_sumByRoundOfLast_23 rfl (lv_at hl 0 rfl) ?_
          refine va_get (D := (dC, dI)) (ci := 3) (v := .ref (at_ 4)) (C := RX3) (T := TX3) (N := 5) hx hb hts uwX3 hown hK hP 0 rfl rfl 3 (by decide) (hts _ fl_X3_23) (fun _ h9 => h9) rfl dX3_sumByRoundOfLast_24 ?_
          refine lv_iload_n hx hb dX3_sumByRoundOfLast_27 rfl (lv_at hl 1 rfl) ?_
          obtain ⟨i7, hq⟩ := hq
          refine va_alda hx hb hK hP 4 6 rfl rfl i7 dX3_sumByRoundOfLast_28 ?_
          refine W.eq (g2 := F0 m 29 ls (.ref (ru x1.toNatClampNeg) :: [.long x5, .long x3])) rfl ?_
          refine lv_iload_n hx hb dX3_sumByRoundOfLast_29 rfl (lv_at hl 2 rfl) ?_
          refine lv_iload hx hb dX3_sumByRoundOfLast_30 (lv_at hl 5 rfl) ?_
          refine lv_isub hx hb dX3_sumByRoundOfLast_32 ?_
          obtain ⟨i8, hq⟩ := hq
          refine va_lald hx hb hK hP (25 + x1.toNatClampNeg) 1 (fam_get_wX3_7 (vp_lt i7)) rfl i8 dX3_sumByRoundOfLast_33 ?_
          refine lv_lmul hx hb dX3_sumByRoundOfLast_34 ?_
          refine lv_ladd hx hb dX3_sumByRoundOfLast_35 ?_
          refine lv_lstore_n (lv' := [(3, .long (x3 + (x5 * ((t_rut x1.toNatClampNeg) (x2 - x7).toNatClampNeg)))), (0, .ref (at_ 0)), (1, .int x1), (2, .int x2), (5, .long x5), (7, .int x7)]) hx hb dX3_sumByRoundOfLast_36 rfl hl (by decide) rfl (fun ls hl => ?_)
          refine lv_lload hx hb dX3_sumByRoundOfLast_37 (lv_at hl 4 rfl) ?_
          refine lv_iload_n hx hb dX3_sumByRoundOfLast_39 rfl (lv_at hl 3 rfl) ?_
          refine lv_iload hx hb dX3_sumByRoundOfLast_40 (lv_at hl 5 rfl) ?_
          refine lv_isub hx hb dX3_sumByRoundOfLast_42 ?_
          refine lv_i2l (v := (x2 - x7).toInt64) hx hb dX3_sumByRoundOfLast_43 rfl ?_
          refine lv_lmul hx hb dX3_sumByRoundOfLast_44 ?_
          refine lv_lstore (lv' := [(5, .long (x5 * (x2 - x7).toInt64)), (3, .long (x3 + (x5 * ((t_rut x1.toNatClampNeg) (x2 - x7).toNatClampNeg)))), (0, .ref (at_ 0)), (1, .int x1), (2, .int x2), (7, .int x7)]) hx hb dX3_sumByRoundOfLast_45 hl (by decide) rfl (fun ls hl => ?_)
          refine lv_iinc (v := (x7 + (1 : Int32))) (lv' := [(7, .int (x7 + (1 : Int32))), (5, .long (x5 * (x2 - x7).toInt64)), (3, .long (x3 + (x5 * ((t_rut x1.toNatClampNeg) (x2 - x7).toNatClampNeg)))), (0, .ref (at_ 0)), (1, .int x1), (2, .int x2)]) hx hb dX3_sumByRoundOfLast_47 hl (k := 5) rfl (by rfl) (by decide) rfl (fun ls hl => ?_)
          refine lv_goto (tgt := 8) hx hb dX3_sumByRoundOfLast_50 (by decide) ?_
          exact ih8 x1 x2 (x3 + (x5 * ((t_rut x1.toNatClampNeg) (x2 - x7).toNatClampNeg))) (x5 * (x2 - x7).toInt64) (x7 + (1 : Int32)) _ hq (lv_sub hl [3, 4, 5, 2, 1, 0] rfl)
  unfold q3_sumByRoundOfLast at hq
  refine lv_lconst (v := (0 : Int64)) hx hb dX3_sumByRoundOfLast_0 (by decide) ?_
  refine lv_lstore_n (lv' := [(3, .long (0 : Int64)), (0, .ref (at_ 0)), (1, .int a1), (2, .int a2)]) hx hb dX3_sumByRoundOfLast_1 rfl hl (by decide) rfl (fun ls hl => ?_)
  refine lv_lconst (v := (1 : Int64)) hx hb dX3_sumByRoundOfLast_2 (by decide) ?_
  refine lv_lstore (lv' := [(5, .long (1 : Int64)), (3, .long (0 : Int64)), (0, .ref (at_ 0)), (1, .int a1), (2, .int a2)]) hx hb dX3_sumByRoundOfLast_3 hl (by decide) rfl (fun ls hl => ?_)
  refine lv_iconst (v := (1 : Int32)) hx hb dX3_sumByRoundOfLast_5 (by decide) ?_
  refine lv_istore (lv' := [(7, .int (1 : Int32)), (5, .long (1 : Int64)), (3, .long (0 : Int64)), (0, .ref (at_ 0)), (1, .int a1), (2, .int a2)]) hx hb dX3_sumByRoundOfLast_6 hl (by decide) rfl (fun ls hl => ?_)
  obtain ⟨kf, hq⟩ := hq
  exact B8 kf a1 a2 (0 : Int64) (1 : Int64) (1 : Int32) _ hq (lv_sub hl [3, 4, 5, 2, 1, 0] rfl)
set_option maxHeartbeats 4000000 in
set_option maxRecDepth 100000 in
theorem c3_fillRoundsUpTo (l : Launch) (dC : Nat → ClassId) (dI : Nat → Nat → Nat) (cs : Nat → ClassId) (at_ : Nat → Nat) (rr : Nat → Nat) (ru : Nat → Nat) (sz : Nat) (t_fac : Nat → Int64) (t_der : Nat → Int64) (t_rec : Nat → Nat → Int64) (t_rut : Nat → Nat → Int64) (t_ris : Nat → Int64) {Q : (Nat → Nat → Int64) → Prop} (hq : q3_fillRoundsUpTo t_rut Q) : Met l yX3_fillRoundsUpTo (.code yX3_fillRoundsUpTo cX3_fillRoundsUpTo 3 none :: gt) ({ frames := 1, cells := 0, slots := 0, locals := 27 } : Room) (va_Pc [.ref (at_ 0)] (Pw (dC, dI) (KA cs) (wX3 cs at_ rr ru t_fac t_der t_rec t_rut t_ris) sz)) (va_Qv (fun (u : (Nat → Nat → Int64)) => Q u) (Bw (dC, dI) (KA cs) (va_A (wX3 cs at_ rr ru t_fac t_der t_rec t_rut t_ris) sz) (fun u : (Nat → Nat → Int64) => (wX3 cs at_ rr ru t_fac t_der t_rec u t_ris))) (va_A (wX3 cs at_ rr ru t_fac t_der t_rec t_rut t_ris) sz)) 0 0 (va_A (wX3 cs at_ rr ru t_fac t_der t_rec t_rut t_ris) sz) := by
  refine Met.ofW (cc := cX3_fillRoundsUpTo) (maxL := 3) (ret := none) (by decide) rfl ?_
  intro p e s m args below meth c s₁ B hml hv
  obtain ⟨rfl, hsz, hP, hK, hD0, hN⟩ := hv
  have hx := B.exec
  have hb := B.bytes
  have hr := B.returns
  have hts0 := atoms_spec (ws := (.code yX3_fillRoundsUpTo cX3_fillRoundsUpTo 3 none :: gt)) B.pre
  have hts : ∀ w ∈ gt, w.before _ s = true := fun w h => hts0 w (List.mem_cons_of_mem _ h)
  have hown : s.vm.findClass RX3 = some m.cls := findClass_of_methodNamed B.named
  have hlocks := B.notSynchronized
  subst hsz
  have hD := hD0.self (sz := s.heap.size)
  generalize hAe : va_A (wX3 cs at_ rr ru t_fac t_der t_rec t_rut t_ris) s.heap.size = A at hD ⊢
  have hA : ∀ q : Nat, s.heap.size ≤ q → A q := fun q h => by rw [← hAe]; exact Or.inr h
  have hS : va_S A s.heap s.heap [] := va_S.rf
  have hl := lv_entry ([.ref (at_ 0)]) (n := 3) (Nat.le_of_ble_eq_true rfl)
  rw [lg_entry_eq]
  generalize (lg_sl ([.ref (at_ 0)]) ++ List.replicate (3 - (lg_sl ([.ref (at_ 0)])).length) Slot.unset).toArray = ls at hl ⊢
  have hl : lv_has ls 3 [(0, .ref (at_ 0))] := hl
  have B2 : ∀ (k2 : Nat) (x1 : Int32) (t_rut : Nat → Nat → Int64) (H : Heap) (locs : List Loc) (ls : Array Slot), q3_fillRoundsUpTo_2 Q k2 x1 t_rut → va_P (dC, dI) vwCl (wX3 cs at_ rr ru t_fac t_der t_rec t_rut t_ris) H → va_D A (wX3 cs at_ rr ru t_fac t_der t_rec t_rut t_ris) → va_S A s.heap H locs → lv_has ls 3 [(0, .ref (at_ 0)), (1, .int x1)] → W p l e ({ frames := 1, cells := 0, slots := 0, locals := 27 } : Room) s m ([.ref (at_ 0)] : List Value).toArray below meth c H locs 0 0 (MQ below (va_Qv (fun (u : (Nat → Nat → Int64)) => Q u) (Bw (dC, dI) (KA cs) A (fun u : (Nat → Nat → Int64) => (wX3 cs at_ rr ru t_fac t_der t_rec u t_ris))) A) ([.ref (at_ 0)] : List Value).toArray s 0 0 A) (F0 m 2 ls []) := by
    intro k2
    induction k2 with
    | zero => intro x1 t_rut H locs ls hq; exact False.elim hq
    | succ k2 ih2 =>
      intro x1 t_rut H locs ls hq hP hD hS hl
      have B45 : ∀ (x1 : Int32) (t_rut : Nat → Nat → Int64) (H : Heap) (locs : List Loc) (ls : Array Slot), q3_fillRoundsUpTo_45 (fun v0 v1 => q3_fillRoundsUpTo_2 Q k2 v0 v1) Q x1 t_rut → va_P (dC, dI) vwCl (wX3 cs at_ rr ru t_fac t_der t_rec t_rut t_ris) H → va_D A (wX3 cs at_ rr ru t_fac t_der t_rec t_rut t_ris) → va_S A s.heap H locs → lv_has ls 3 [(0, .ref (at_ 0)), (1, .int x1)] → W p l e ({ frames := 1, cells := 0, slots := 0, locals := 27 } : Room) s m ([.ref (at_ 0)] : List Value).toArray below meth c H locs 0 0 (MQ below (va_Qv (fun (u : (Nat → Nat → Int64)) => Q u) (Bw (dC, dI) (KA cs) A (fun u : (Nat → Nat → Int64) => (wX3 cs at_ rr ru t_fac t_der t_rec u t_ris))) A) ([.ref (at_ 0)] : List Value).toArray s 0 0 A) (F0 m 45 ls []) := by
        intro x1 t_rut H locs ls hq hP hD hS hl
        unfold q3_fillRoundsUpTo_45 at hq
        refine lv_iinc (v := (x1 + (1 : Int32))) (lv' := [(1, .int (x1 + (1 : Int32))), (0, .ref (at_ 0))]) hx hb dX3_fillRoundsUpTo_45 hl (k := 1) rfl (by rfl) (by decide) rfl (fun ls hl => ?_)
        refine lv_goto (tgt := 2) hx hb dX3_fillRoundsUpTo_48 (by decide) ?_
        exact ih2 (x1 + (1 : Int32)) t_rut _ _ _ hq hP hD hS (lv_sub hl [1, 0] rfl)
      have B19 : ∀ (k19 : Nat) (x1 : Int32) (x2 : Int32) (t_rut : Nat → Nat → Int64) (H : Heap) (locs : List Loc) (ls : Array Slot), q3_fillRoundsUpTo_19 (fun v0 v1 => q3_fillRoundsUpTo_2 Q k2 v0 v1) Q k19 x1 x2 t_rut → va_P (dC, dI) vwCl (wX3 cs at_ rr ru t_fac t_der t_rec t_rut t_ris) H → va_D A (wX3 cs at_ rr ru t_fac t_der t_rec t_rut t_ris) → va_S A s.heap H locs → lv_has ls 3 [(0, .ref (at_ 0)), (1, .int x1), (2, .int x2)] → W p l e ({ frames := 1, cells := 0, slots := 0, locals := 27 } : Room) s m ([.ref (at_ 0)] : List Value).toArray below meth c H locs 0 0 (MQ below (va_Qv (fun (u : (Nat → Nat → Int64)) => Q u) (Bw (dC, dI) (KA cs) A (fun u : (Nat → Nat → Int64) => (wX3 cs at_ rr ru t_fac t_der t_rec u t_ris))) A) ([.ref (at_ 0)] : List Value).toArray s 0 0 A) (F0 m 19 ls []) := by
        intro k19
        induction k19 with
        | zero => intro x1 x2 t_rut H locs ls hq; exact False.elim hq
        | succ k19 ih19 =>
          intro x1 x2 t_rut H locs ls hq hP hD hS hl
          unfold q3_fillRoundsUpTo_19 at hq
          refine lv_iload_n hx hb dX3_fillRoundsUpTo_19 rfl (lv_at hl 2 rfl) ?_
          refine lv_bipush (v := (18 : Int32)) hx hb dX3_fillRoundsUpTo_20 (by decide) ?_
          refine lv_icmp_gt (tgt := 45) hx hb dX3_fillRoundsUpTo_22 (by decide) (fun c8 => ?_) (fun c8 => ?_)
          · have hq := hq.1 c8
            exact B45 x1 t_rut _ _ _ hq hP hD hS (lv_sub hl [0, 1] rfl)
          · have hq := hq.2 c8
            refine lv_aload_n hx hb dX3_fillRoundsUpTo_25 rfl (lv_at hl 0 rfl) ?_
            refine va_get (D := (dC, dI)) (ci := 3) (v := .ref (at_ 4)) (C := RX3) (T := TX3) (N := 5) hx hb hts uwX3 hown hK hP 0 rfl rfl 3 (by decide) (hts _ fl_X3_23) (fun _ h9 => h9) rfl dX3_fillRoundsUpTo_26 ?_
            refine lv_iload_n hx hb dX3_fillRoundsUpTo_29 rfl (lv_at hl 1 rfl) ?_
            obtain ⟨i9, hq⟩ := hq
            refine va_alda hx hb hK hP 4 6 rfl rfl i9 dX3_fillRoundsUpTo_30 ?_
            refine W.eq (g2 := F0 m 31 ls (.ref (ru x1.toNatClampNeg) :: [])) rfl ?_
            refine lv_iload_n hx hb dX3_fillRoundsUpTo_31 rfl (lv_at hl 2 rfl) ?_
            refine lv_aload_n hx hb dX3_fillRoundsUpTo_32 rfl (lv_at hl 0 rfl) ?_
            refine lv_iload_n hx hb dX3_fillRoundsUpTo_33 rfl (lv_at hl 1 rfl) ?_
            refine lv_iload_n hx hb dX3_fillRoundsUpTo_34 rfl (lv_at hl 2 rfl) ?_
            refine rol (runV ⟨hx, hb, hml, hown, hts⟩ wf_X3_sumByRoundOfLast ml_X3_48 (c3_sumByRoundOfLast l dC dI cs at_ rr ru t_fac t_der t_rec t_rut t_ris x1 x2 hq) ⟨⟨rfl, rfl⟩, by decide, by decide⟩ (preR hP hK hN) hK hP rfl 0 rfl rfl hl.1 rfl (Nat.le_of_ble_eq_true rfl) dX3_fillRoundsUpTo_35 ⟨(Nat.le_of_ble_eq_true rfl), (Nat.le_of_ble_eq_true rfl)⟩) (fun r10 hq => ?_)
            obtain ⟨i11, hq⟩ := hq
            refine va_last hx hb hK hP hD hS (25 + x1.toNatClampNeg) 1 (fam_get_wX3_7 (vp_lt i9)) rfl i11 dX3_fillRoundsUpTo_38 (fun H locs hP hD hS => ?_)
            rw [fam_set_wX3_7 (vp_lt i9)] at hP hD
            have hP : va_P (dC, dI) vwCl (wX3 cs at_ rr ru t_fac t_der t_rec (va_up t_rut x1.toNatClampNeg (vp_updL (t_rut x1.toNatClampNeg) x2.toNatClampNeg r10)) t_ris) H := hP
            have hD : va_D A (wX3 cs at_ rr ru t_fac t_der t_rec (va_up t_rut x1.toNatClampNeg (vp_updL (t_rut x1.toNatClampNeg) x2.toNatClampNeg r10)) t_ris) := hD
            refine lv_iinc (v := (x2 + (1 : Int32))) (lv' := [(2, .int (x2 + (1 : Int32))), (0, .ref (at_ 0)), (1, .int x1)]) hx hb dX3_fillRoundsUpTo_39 hl (k := 2) rfl (by rfl) (by decide) rfl (fun ls hl => ?_)
            refine lv_goto (tgt := 19) hx hb dX3_fillRoundsUpTo_42 (by decide) ?_
            exact ih19 x1 (x2 + (1 : Int32)) (va_up t_rut x1.toNatClampNeg (vp_updL (t_rut x1.toNatClampNeg) x2.toNatClampNeg r10)) _ _ _ hq hP hD hS (lv_sub hl [1, 2, 0] rfl)
      unfold q3_fillRoundsUpTo_2 at hq
      refine lv_iload_n hx hb dX3_fillRoundsUpTo_2 rfl (lv_at hl 1 rfl) ?_
      refine lv_bipush (v := (18 : Int32)) hx hb dX3_fillRoundsUpTo_3 (by decide) ?_
      refine lv_icmp_gt (tgt := 51) hx hb dX3_fillRoundsUpTo_5 (by decide) (fun c12 => ?_) (fun c12 => ?_)
      · have hq := hq.1 c12
        exact W.vret hx hb hr (fun t ht hW => ⟨⟨t_rut, rfl, hq, Bw_mk (by rw [ht]; exact hP) (va_K.moved hW.alike hK) hD⟩, hS.F ht⟩) hS.2.2 dX3_fillRoundsUpTo_51
      · have hq := hq.2 c12
        refine lv_aload_n hx hb dX3_fillRoundsUpTo_8 rfl (lv_at hl 0 rfl) ?_
        refine va_get (D := (dC, dI)) (ci := 3) (v := .ref (at_ 4)) (C := RX3) (T := TX3) (N := 5) hx hb hts uwX3 hown hK hP 0 rfl rfl 3 (by decide) (hts _ fl_X3_23) (fun _ h9 => h9) rfl dX3_fillRoundsUpTo_9 ?_
        refine lv_iload_n hx hb dX3_fillRoundsUpTo_12 rfl (lv_at hl 1 rfl) ?_
        obtain ⟨i13, hq⟩ := hq
        refine va_alda hx hb hK hP 4 6 rfl rfl i13 dX3_fillRoundsUpTo_13 ?_
        refine W.eq (g2 := F0 m 14 ls (.ref (ru x1.toNatClampNeg) :: [])) rfl ?_
        refine lv_iconst (v := (0 : Int32)) hx hb dX3_fillRoundsUpTo_14 (by decide) ?_
        refine lv_lconst (v := (1 : Int64)) hx hb dX3_fillRoundsUpTo_15 (by decide) ?_
        obtain ⟨i14, hq⟩ := hq
        refine va_last hx hb hK hP hD hS (25 + x1.toNatClampNeg) 1 (fam_get_wX3_7 (vp_lt i13)) rfl i14 dX3_fillRoundsUpTo_16 (fun H locs hP hD hS => ?_)
        rw [fam_set_wX3_7 (vp_lt i13)] at hP hD
        have hP : va_P (dC, dI) vwCl (wX3 cs at_ rr ru t_fac t_der t_rec (va_up t_rut x1.toNatClampNeg (vp_updL (t_rut x1.toNatClampNeg) (0 : Int32).toNatClampNeg (1 : Int64))) t_ris) H := hP
        have hD : va_D A (wX3 cs at_ rr ru t_fac t_der t_rec (va_up t_rut x1.toNatClampNeg (vp_updL (t_rut x1.toNatClampNeg) (0 : Int32).toNatClampNeg (1 : Int64))) t_ris) := hD
        refine lv_iconst (v := (1 : Int32)) hx hb dX3_fillRoundsUpTo_17 (by decide) ?_
        refine lv_istore_n (lv' := [(2, .int (1 : Int32)), (0, .ref (at_ 0)), (1, .int x1)]) hx hb dX3_fillRoundsUpTo_18 rfl hl (by decide) rfl (fun ls hl => ?_)
        obtain ⟨kf, hq⟩ := hq
        exact B19 kf x1 (1 : Int32) (va_up t_rut x1.toNatClampNeg (vp_updL (t_rut x1.toNatClampNeg) (0 : Int32).toNatClampNeg (1 : Int64))) _ _ _ hq hP hD hS (lv_sub hl [1, 2, 0] rfl)
  unfold q3_fillRoundsUpTo at hq
  refine lv_iconst (v := (0 : Int32)) hx hb dX3_fillRoundsUpTo_0 (by decide) ?_
  refine lv_istore_n (lv' := [(1, .int (0 : Int32)), (0, .ref (at_ 0))]) hx hb dX3_fillRoundsUpTo_1 rfl hl (by decide) rfl (fun ls hl => ?_)
  obtain ⟨kf, hq⟩ := hq
  exact B2 kf (0 : Int32) t_rut _ _ _ hq hP hD hS (lv_sub hl [1, 0] rfl)
