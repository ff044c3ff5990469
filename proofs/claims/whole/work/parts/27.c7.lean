set_option maxHeartbeats 4000000 in
set_option maxRecDepth 100000 in
theorem c0_placeNextThing (l : Launch) (dC : Nat → ClassId) (dI : Nat → Nat → Nat) (cs : Nat → ClassId) (al : Nat → Nat) (bx : Nat → Nat) (sz : Nat) (l_len : Nat → Int32) (l_ways : Nat → Int64) (l_box : Nat → Nat → Int32) (a1 : Int32) (a2 : Int32) (a3 : Int32) {Q : (Nat → Int64) → Prop} (hq : q0_placeNextThing l_len l_box l_ways a1 a2 a3 Q) : Met l yX0_placeNextThing (.code yX0_placeNextThing cX0_placeNextThing 8 none :: gt) ({ frames := 2, cells := 0, slots := 0, locals := 43 } : Room) (va_Pc [.ref (al 0), .int a1, .int a2, .int a3] (Pw (dC, dI) (KA cs) (wX0 cs al bx l_len l_ways l_box) sz)) (va_Qv (fun (u : (Nat → Int64)) => Q u) (Bw (dC, dI) (KA cs) (va_A (wX0 cs al bx l_len l_ways l_box) sz) (fun u : (Nat → Int64) => (wX0 cs al bx l_len u l_box))) (va_A (wX0 cs al bx l_len l_ways l_box) sz)) 0 0 (va_A (wX0 cs al bx l_len l_ways l_box) sz) := by
  refine Met.ofW (cc := cX0_placeNextThing) (maxL := 8) (ret := none) (by decide) rfl ?_
  intro p e s m args below meth c s₁ B hml hv
  obtain ⟨rfl, hsz, hP, hK, hD0, hN⟩ := hv
  have hx := B.exec
  have hb := B.bytes
  have hr := B.returns
  have hts0 := atoms_spec (ws := (.code yX0_placeNextThing cX0_placeNextThing 8 none :: gt)) B.pre
  have hts : ∀ w ∈ gt, w.before _ s = true := fun w h => hts0 w (List.mem_cons_of_mem _ h)
  have hown : s.vm.findClass RX0 = some m.cls := findClass_of_methodNamed B.named
  have hlocks := B.notSynchronized
  subst hsz
  have hD := hD0.self (sz := s.heap.size)
  generalize hAe : va_A (wX0 cs al bx l_len l_ways l_box) s.heap.size = A at hD ⊢
  have hA : ∀ q : Nat, s.heap.size ≤ q → A q := fun q h => by rw [← hAe]; exact Or.inr h
  have hS : va_S A s.heap s.heap [] := va_S.rf
  have hl := lv_entry ([.ref (al 0), .int a1, .int a2, .int a3]) (n := 8) (Nat.le_of_ble_eq_true rfl)
  rw [lg_entry_eq]
  generalize (lg_sl ([.ref (al 0), .int a1, .int a2, .int a3]) ++ List.replicate (8 - (lg_sl ([.ref (al 0), .int a1, .int a2, .int a3])).length) Slot.unset).toArray = ls at hl ⊢
  have hl : lv_has ls 8 [(0, .ref (al 0)), (1, .int a1), (2, .int a2), (3, .int a3)] := hl
  have B18 : ∀ (k18 : Nat) (x1 : Int32) (x2 : Int32) (x4 : Int32) (x5 : Int32) (x6 : Int32) (l_ways : Nat → Int64) (H : Heap) (locs : List Loc) (ls : Array Slot), q0_placeNextThing_18 l_len l_box Q k18 x1 x2 x4 x5 x6 l_ways → va_P (dC, dI) vwCl (wX0 cs al bx l_len l_ways l_box) H → va_D A (wX0 cs al bx l_len l_ways l_box) → va_S A s.heap H locs → lv_has ls 8 [(0, .ref (al 0)), (1, .int x1), (2, .int x2), (4, .int x4), (5, .int x5), (6, .int x6)] → W p l e ({ frames := 2, cells := 0, slots := 0, locals := 43 } : Room) s m ([.ref (al 0), .int a1, .int a2, .int a3] : List Value).toArray below meth c H locs 0 0 (MQ below (va_Qv (fun (u : (Nat → Int64)) => Q u) (Bw (dC, dI) (KA cs) A (fun u : (Nat → Int64) => (wX0 cs al bx l_len u l_box))) A) ([.ref (al 0), .int a1, .int a2, .int a3] : List Value).toArray s 0 0 A) (F0 m 18 ls []) := by
    intro k18
    induction k18 with
    | zero => intro x1 x2 x4 x5 x6 l_ways H locs ls hq; exact False.elim hq
    | succ k18 ih18 =>
      intro x1 x2 x4 x5 x6 l_ways H locs ls hq hP hD hS hl
      have B69 : ∀ (x1 : Int32) (x2 : Int32) (x4 : Int32) (x5 : Int32) (x6 : Int32) (l_ways : Nat → Int64) (H : Heap) (locs : List Loc) (ls : Array Slot), q0_placeNextThing_69 l_len l_box (fun v0 v1 v2 v3 v4 v5 => q0_placeNextThing_18 l_len l_box Q k18 v0 v1 v2 v3 v4 v5) Q x1 x2 x4 x5 x6 l_ways → va_P (dC, dI) vwCl (wX0 cs al bx l_len l_ways l_box) H → va_D A (wX0 cs al bx l_len l_ways l_box) → va_S A s.heap H locs → lv_has ls 8 [(0, .ref (al 0)), (1, .int x1), (2, .int x2), (4, .int x4), (5, .int x5), (6, .int x6)] → W p l e ({ frames := 2, cells := 0, slots := 0, locals := 43 } : Room) s m ([.ref (al 0), .int a1, .int a2, .int a3] : List Value).toArray below meth c H locs 0 0 (MQ below (va_Qv (fun (u : (Nat → Int64)) => Q u) (Bw (dC, dI) (KA cs) A (fun u : (Nat → Int64) => (wX0 cs al bx l_len u l_box))) A) ([.ref (al 0), .int a1, .int a2, .int a3] : List Value).toArray s 0 0 A) (F0 m 69 ls []) := by
        intro x1 x2 x4 x5 x6 l_ways H locs ls hq hP hD hS hl
        unfold q0_placeNextThing_69 at hq
        refine lv_iinc (v := (x6 + (1 : Int32))) (lv' := [(6, .int (x6 + (1 : Int32))), (0, .ref (al 0)), (1, .int x1), (2, .int x2), (4, .int x4), (5, .int x5)]) hx hb dX0_placeNextThing_69 hl (k := 5) rfl (by rfl) (by decide) rfl (fun ls hl => ?_)
        refine lv_goto (tgt := 18) hx hb dX0_placeNextThing_72 (by decide) ?_
        exact ih18 x1 x2 x4 x5 (x6 + (1 : Int32)) l_ways _ _ _ hq hP hD hS (lv_sub hl [1, 2, 3, 4, 5, 0] rfl)
      unfold q0_placeNextThing_18 at hq
      refine lv_iload hx hb dX0_placeNextThing_18 (lv_at hl 5 rfl) ?_
      refine lv_iload hx hb dX0_placeNextThing_20 (lv_at hl 4 rfl) ?_
      refine lv_icmp_ge (tgt := 75) hx hb dX0_placeNextThing_22 (by decide) (fun c11 => ?_) (fun c11 => ?_)
      · have hq := hq.1 c11
        exact W.vret hx hb hr (fun t ht hW => ⟨⟨l_ways, rfl, hq, Bw_mk (by rw [ht]; exact hP) (va_K.moved hW.alike hK) hD⟩, hS.F ht⟩) hS.2.2 dX0_placeNextThing_75
      · have hq := hq.2 c11
        refine lv_iload_n hx hb dX0_placeNextThing_25 rfl (lv_at hl 1 rfl) ?_
        refine lv_iconst (v := (1 : Int32)) hx hb dX0_placeNextThing_26 (by decide) ?_
        refine lv_aload_n hx hb dX0_placeNextThing_27 rfl (lv_at hl 0 rfl) ?_
        refine va_get (D := (dC, dI)) (ci := 0) (v := .ref (al 1)) (C := RX0) (T := TX0) (N := 3) hx hb hts uwX0 hown hK hP 0 rfl rfl 0 (by decide) (hts _ fl_X0_11) (fun _ h9 => h9) rfl dX0_placeNextThing_28 ?_
        refine lv_iload hx hb dX0_placeNextThing_31 (lv_at hl 3 rfl) ?_
        obtain ⟨i12, hq⟩ := hq
        refine va_alda hx hb hK hP 1 5 rfl rfl i12 dX0_placeNextThing_33 ?_
        refine W.eq (g2 := F0 m 34 ls (.ref (bx x4.toNatClampNeg) :: [.int (1 : Int32), .int x1])) rfl ?_
        refine lv_iload hx hb dX0_placeNextThing_34 (lv_at hl 5 rfl) ?_
        obtain ⟨i13, hq⟩ := hq
        refine va_iald hx hb hK hP (4 + x4.toNatClampNeg) 0 (fam_get_wX0_4 (vp_lt i12)) rfl i13 dX0_placeNextThing_36 ?_
        refine lv_ishl hx hb dX0_placeNextThing_37 ?_
        refine lv_ior hx hb dX0_placeNextThing_38 ?_
        refine lv_istore (lv' := [(7, .int (x1 ||| ((1 : Int32) <<< (((l_box x4.toNatClampNeg) x6.toNatClampNeg) &&& 31)))), (0, .ref (al 0)), (1, .int x1), (2, .int x2), (4, .int x4), (5, .int x5), (6, .int x6)]) hx hb dX0_placeNextThing_39 hl (by decide) rfl (fun ls hl => ?_)
        refine lv_iload hx hb dX0_placeNextThing_41 (lv_at hl 0 rfl) ?_
        refine lv_iload_n hx hb dX0_placeNextThing_43 rfl (lv_at hl 2 rfl) ?_
        refine lv_icmp_le (tgt := 69) hx hb dX0_placeNextThing_44 (by decide) (fun c14 => ?_) (fun c14 => ?_)
        · have hq := hq.1 c14
          exact B69 x1 x2 x4 x5 x6 l_ways _ _ _ hq hP hD hS (lv_sub hl [1, 2, 3, 4, 5, 6] rfl)
        · have hq := hq.2 c14
          refine lv_iload hx hb dX0_placeNextThing_47 (lv_at hl 0 rfl) ?_
          refine lv_iload_n hx hb dX0_placeNextThing_49 rfl (lv_at hl 3 rfl) ?_
          refine lv_icmp_gt (tgt := 69) hx hb dX0_placeNextThing_50 (by decide) (fun c15 => ?_) (fun c15 => ?_)
          · have hq := hq.1 c15
            exact B69 x1 x2 x4 x5 x6 l_ways _ _ _ hq hP hD hS (lv_sub hl [1, 2, 3, 4, 5, 6] rfl)
          · have hq := hq.2 c15
            refine lv_aload_n hx hb dX0_placeNextThing_53 rfl (lv_at hl 1 rfl) ?_
            refine va_get (D := (dC, dI)) (ci := 0) (v := .ref (al 3)) (C := RX0) (T := TX0) (N := 3) hx hb hts uwX0 hown hK hP 0 rfl rfl 2 (by decide) (hts _ fl_X0_20) (fun _ h9 => h9) rfl dX0_placeNextThing_54 ?_
            refine lv_iload hx hb dX0_placeNextThing_57 (lv_at hl 0 rfl) ?_
            refine lv_dup2_11 hx hb dX0_placeNextThing_59 rfl rfl ?_
            obtain ⟨i16, hq⟩ := hq
            refine va_lald hx hb hK hP 3 1 rfl rfl i16 dX0_placeNextThing_60 ?_
            refine lv_aload_n hx hb dX0_placeNextThing_61 rfl (lv_at hl 1 rfl) ?_
            refine va_get (D := (dC, dI)) (ci := 0) (v := .ref (al 3)) (C := RX0) (T := TX0) (N := 3) hx hb hts uwX0 hown hK hP 0 rfl rfl 2 (by decide) (hts _ fl_X0_20) (fun _ h9 => h9) rfl dX0_placeNextThing_62 ?_
            refine lv_iload_n hx hb dX0_placeNextThing_65 rfl (lv_at hl 2 rfl) ?_
            obtain ⟨i17, hq⟩ := hq
            refine va_lald hx hb hK hP 3 1 rfl rfl i17 dX0_placeNextThing_66 ?_
            refine lv_ladd hx hb dX0_placeNextThing_67 ?_
            obtain ⟨i18, hq⟩ := hq
            refine va_last hx hb hK hP hD hS 3 1 rfl rfl i18 dX0_placeNextThing_68 (fun H locs hP hD hS => ?_)
            have hP : va_P (dC, dI) vwCl (wX0 cs al bx l_len (vp_updL l_ways (x1 ||| ((1 : Int32) <<< (((l_box x4.toNatClampNeg) x6.toNatClampNeg) &&& 31))).toNatClampNeg ((l_ways (x1 ||| ((1 : Int32) <<< (((l_box x4.toNatClampNeg) x6.toNatClampNeg) &&& 31))).toNatClampNeg) + (l_ways x1.toNatClampNeg))) l_box) H := hP
            have hD : va_D A (wX0 cs al bx l_len (vp_updL l_ways (x1 ||| ((1 : Int32) <<< (((l_box x4.toNatClampNeg) x6.toNatClampNeg) &&& 31))).toNatClampNeg ((l_ways (x1 ||| ((1 : Int32) <<< (((l_box x4.toNatClampNeg) x6.toNatClampNeg) &&& 31))).toNatClampNeg) + (l_ways x1.toNatClampNeg))) l_box) := hD
            exact B69 x1 x2 x4 x5 x6 (vp_updL l_ways (x1 ||| ((1 : Int32) <<< (((l_box x4.toNatClampNeg) x6.toNatClampNeg) &&& 31))).toNatClampNeg ((l_ways (x1 ||| ((1 : Int32) <<< (((l_box x4.toNatClampNeg) x6.toNatClampNeg) &&& 31))).toNatClampNeg) + (l_ways x1.toNatClampNeg))) _ _ _ hq hP hD hS (lv_sub hl [1, 2, 3, 4, 5, 6] rfl)
  unfold q0_placeNextThing at hq
  refine lv_iload_n hx hb dX0_placeNextThing_0 rfl (lv_at hl 1 rfl) ?_
  refine roi (runSO ⟨hx, hb, hml, hown, hts⟩ ws_J6_bitCount_0f7a4 ml_X0_49 (c6_bitCount_0f7a4 l dC dI cs   a1 hq) ⟨⟨rfl, rfl⟩, by decide, by decide⟩ (preR va_P_nil hK hN) rfl hl.1 rfl (Nat.le_of_ble_eq_true rfl) dX0_placeNextThing_1 ⟨(Nat.le_of_ble_eq_true rfl), (Nat.le_of_ble_eq_true rfl)⟩) (fun r19 hq => ?_)
  refine lv_istore (lv' := [(4, .int r19), (0, .ref (al 0)), (1, .int a1), (2, .int a2), (3, .int a3)]) hx hb dX0_placeNextThing_4 hl (by decide) rfl (fun ls hl => ?_)
  refine lv_aload_n hx hb dX0_placeNextThing_6 rfl (lv_at hl 1 rfl) ?_
  refine lv_iload hx hb dX0_placeNextThing_7 (lv_at hl 0 rfl) ?_
  refine lv_iload_n hx hb dX0_placeNextThing_9 rfl (lv_at hl 4 rfl) ?_
  refine roi (runV ⟨hx, hb, hml, hown, hts⟩ wf_X0_firstOf ml_X0_28 (c0_firstOf l dC dI cs al bx l_len l_ways l_box r19 a3 hq) ⟨⟨rfl, rfl⟩, by decide, by decide⟩ (preR hP hK hN) hK hP rfl 0 rfl rfl hl.1 rfl (Nat.le_of_ble_eq_true rfl) dX0_placeNextThing_10 ⟨(Nat.le_of_ble_eq_true rfl), (Nat.le_of_ble_eq_true rfl)⟩) (fun r20 hq => ?_)
  refine lv_istore (lv' := [(5, .int r20), (4, .int r19), (0, .ref (al 0)), (1, .int a1), (2, .int a2), (3, .int a3)]) hx hb dX0_placeNextThing_13 hl (by decide) rfl (fun ls hl => ?_)
  refine lv_iconst (v := (0 : Int32)) hx hb dX0_placeNextThing_15 (by decide) ?_
  refine lv_istore (lv' := [(6, .int (0 : Int32)), (5, .int r20), (4, .int r19), (0, .ref (al 0)), (1, .int a1), (2, .int a2), (3, .int a3)]) hx hb dX0_placeNextThing_16 hl (by decide) rfl (fun ls hl => ?_)
  obtain ⟨kf, hq⟩ := hq
  exact B18 kf a1 a2 r19 r20 (0 : Int32) l_ways _ _ _ hq hP hD hS (lv_sub hl [3, 4, 5, 2, 1, 0] rfl)
set_option maxHeartbeats 4000000 in
set_option maxRecDepth 100000 in
theorem c0_ordersWonByAll (l : Launch) (dC : Nat → ClassId) (dI : Nat → Nat → Nat) (cs : Nat → ClassId) (al : Nat → Nat) (bx : Nat → Nat) (sz : Nat) (l_len : Nat → Int32) (l_ways : Nat → Int64) (l_box : Nat → Nat → Int32) (a1 : Int32) (a2 : Int32) {Q : Int64 → (Nat → Int64) → Prop} (hq : q0_ordersWonByAll l_len l_box l_ways a1 a2 Q) : Met l yX0_ordersWonByAll (.code yX0_ordersWonByAll cX0_ordersWonByAll 5 (some .long) :: gt) ({ frames := 3, cells := 0, slots := 0, locals := 70 } : Room) (va_Pc [.ref (al 0), .int a1, .int a2] (Pw (dC, dI) (KA cs) (wX0 cs al bx l_len l_ways l_box) sz)) (va_Ql (fun (r : Int64) (u : (Nat → Int64)) => Q r u) (Bw (dC, dI) (KA cs) (va_A (wX0 cs al bx l_len l_ways l_box) sz) (fun u : (Nat → Int64) => (wX0 cs al bx l_len u l_box))) (va_A (wX0 cs al bx l_len l_ways l_box) sz)) 0 0 (va_A (wX0 cs al bx l_len l_ways l_box) sz) := by
  refine Met.ofW (cc := cX0_ordersWonByAll) (maxL := 5) (ret := (some .long)) (by decide) rfl ?_
  intro p e s m args below meth c s₁ B hml hv
  obtain ⟨rfl, hsz, hP, hK, hD0, hN⟩ := hv
  have hx := B.exec
  have hb := B.bytes
  have hr := B.returns
  have hts0 := atoms_spec (ws := (.code yX0_ordersWonByAll cX0_ordersWonByAll 5 (some .long) :: gt)) B.pre
  have hts : ∀ w ∈ gt, w.before _ s = true := fun w h => hts0 w (List.mem_cons_of_mem _ h)
  have hown : s.vm.findClass RX0 = some m.cls := findClass_of_methodNamed B.named
  have hlocks := B.notSynchronized
  subst hsz
  have hD := hD0.self (sz := s.heap.size)
  generalize hAe : va_A (wX0 cs al bx l_len l_ways l_box) s.heap.size = A at hD ⊢
  have hA : ∀ q : Nat, s.heap.size ≤ q → A q := fun q h => by rw [← hAe]; exact Or.inr h
  have hS : va_S A s.heap s.heap [] := va_S.rf
  have hl := lv_entry ([.ref (al 0), .int a1, .int a2]) (n := 5) (Nat.le_of_ble_eq_true rfl)
  rw [lg_entry_eq]
  generalize (lg_sl ([.ref (al 0), .int a1, .int a2]) ++ List.replicate (5 - (lg_sl ([.ref (al 0), .int a1, .int a2])).length) Slot.unset).toArray = ls at hl ⊢
  have hl : lv_has ls 5 [(0, .ref (al 0)), (1, .int a1), (2, .int a2)] := hl
  have B86 : ∀ (x3 : Int32) (l_ways : Nat → Int64) (H : Heap) (locs : List Loc) (ls : Array Slot), q0_ordersWonByAll_86 l_len l_box Q x3 l_ways → va_P (dC, dI) vwCl (wX0 cs al bx l_len l_ways l_box) H → va_D A (wX0 cs al bx l_len l_ways l_box) → va_S A s.heap H locs → lv_has ls 5 [(0, .ref (al 0)), (3, .int x3)] → W p l e ({ frames := 3, cells := 0, slots := 0, locals := 70 } : Room) s m ([.ref (al 0), .int a1, .int a2] : List Value).toArray below meth c H locs 0 0 (MQ below (va_Ql (fun (r : Int64) (u : (Nat → Int64)) => Q r u) (Bw (dC, dI) (KA cs) A (fun u : (Nat → Int64) => (wX0 cs al bx l_len u l_box))) A) ([.ref (al 0), .int a1, .int a2] : List Value).toArray s 0 0 A) (F0 m 86 ls []) := by
    intro x3 l_ways H locs ls hq hP hD hS hl
    unfold q0_ordersWonByAll_86 at hq
    refine lv_aload_n hx hb dX0_ordersWonByAll_86 rfl (lv_at hl 0 rfl) ?_
    refine va_get (D := (dC, dI)) (ci := 0) (v := .ref (al 3)) (C := RX0) (T := TX0) (N := 3) hx hb hts uwX0 hown hK hP 0 rfl rfl 2 (by decide) (hts _ fl_X0_20) (fun _ h9 => h9) rfl dX0_ordersWonByAll_87 ?_
    refine lv_iload_n hx hb dX0_ordersWonByAll_90 rfl (lv_at hl 1 rfl) ?_
    obtain ⟨i12, hq⟩ := hq
    refine va_lald hx hb hK hP 3 1 rfl rfl i12 dX0_ordersWonByAll_91 ?_
    exact W.lret (v := (l_ways x3.toNatClampNeg)) hx hb hr (fun t ht hW => ⟨⟨(l_ways x3.toNatClampNeg), l_ways, rfl, hq, Bw_mk (by rw [ht]; exact hP) (va_K.moved hW.alike hK) hD⟩, hS.F ht⟩) hS.2.2 dX0_ordersWonByAll_92
  have B54 : ∀ (k54 : Nat) (x2 : Int32) (x3 : Int32) (x4 : Int32) (l_ways : Nat → Int64) (H : Heap) (locs : List Loc) (ls : Array Slot), q0_ordersWonByAll_54 l_len l_box Q k54 x2 x3 x4 l_ways → va_P (dC, dI) vwCl (wX0 cs al bx l_len l_ways l_box) H → va_D A (wX0 cs al bx l_len l_ways l_box) → va_S A s.heap H locs → lv_has ls 5 [(0, .ref (al 0)), (2, .int x2), (3, .int x3), (4, .int x4)] → W p l e ({ frames := 3, cells := 0, slots := 0, locals := 70 } : Room) s m ([.ref (al 0), .int a1, .int a2] : List Value).toArray below meth c H locs 0 0 (MQ below (va_Ql (fun (r : Int64) (u : (Nat → Int64)) => Q r u) (Bw (dC, dI) (KA cs) A (fun u : (Nat → Int64) => (wX0 cs al bx l_len u l_box))) A) ([.ref (al 0), .int a1, .int a2] : List Value).toArray s 0 0 A) (F0 m 54 ls []) := by
    intro k54
    induction k54 with
    | zero => intro x2 x3 x4 l_ways H locs ls hq; exact False.elim hq
    | succ k54 ih54 =>
      intro x2 x3 x4 l_ways H locs ls hq hP hD hS hl
      have B80 : ∀ (x2 : Int32) (x3 : Int32) (x4 : Int32) (l_ways : Nat → Int64) (H : Heap) (locs : List Loc) (ls : Array Slot), q0_ordersWonByAll_80 l_len l_box (fun v0 v1 v2 v3 => q0_ordersWonByAll_54 l_len l_box Q k54 v0 v1 v2 v3) Q x2 x3 x4 l_ways → va_P (dC, dI) vwCl (wX0 cs al bx l_len l_ways l_box) H → va_D A (wX0 cs al bx l_len l_ways l_box) → va_S A s.heap H locs → lv_has ls 5 [(0, .ref (al 0)), (2, .int x2), (3, .int x3), (4, .int x4)] → W p l e ({ frames := 3, cells := 0, slots := 0, locals := 70 } : Room) s m ([.ref (al 0), .int a1, .int a2] : List Value).toArray below meth c H locs 0 0 (MQ below (va_Ql (fun (r : Int64) (u : (Nat → Int64)) => Q r u) (Bw (dC, dI) (KA cs) A (fun u : (Nat → Int64) => (wX0 cs al bx l_len u l_box))) A) ([.ref (al 0), .int a1, .int a2] : List Value).toArray s 0 0 A) (F0 m 80 ls []) := by
        intro x2 x3 x4 l_ways H locs ls hq hP hD hS hl
        unfold q0_ordersWonByAll_80 at hq
        refine lv_iinc (v := (x4 + (1 : Int32))) (lv' := [(4, .int (x4 + (1 : Int32))), (0, .ref (al 0)), (2, .int x2), (3, .int x3)]) hx hb dX0_ordersWonByAll_80 hl (k := 3) rfl (by rfl) (by decide) rfl (fun ls hl => ?_)
        refine lv_goto (tgt := 54) hx hb dX0_ordersWonByAll_83 (by decide) ?_
        exact ih54 x2 x3 (x4 + (1 : Int32)) l_ways _ _ _ hq hP hD hS (lv_sub hl [1, 2, 3, 0] rfl)
      unfold q0_ordersWonByAll_54 at hq
      refine lv_iload hx hb dX0_ordersWonByAll_54 (lv_at hl 3 rfl) ?_
      refine lv_iload_n hx hb dX0_ordersWonByAll_56 rfl (lv_at hl 2 rfl) ?_
      refine lv_icmp_ge (tgt := 86) hx hb dX0_ordersWonByAll_57 (by decide) (fun c13 => ?_) (fun c13 => ?_)
      · have hq := hq.1 c13
        exact B86 x3 l_ways _ _ _ hq hP hD hS (lv_sub hl [0, 2] rfl)
      · have hq := hq.2 c13
        refine lv_aload_n hx hb dX0_ordersWonByAll_60 rfl (lv_at hl 0 rfl) ?_
        refine va_get (D := (dC, dI)) (ci := 0) (v := .ref (al 3)) (C := RX0) (T := TX0) (N := 3) hx hb hts uwX0 hown hK hP 0 rfl rfl 2 (by decide) (hts _ fl_X0_20) (fun _ h9 => h9) rfl dX0_ordersWonByAll_61 ?_
        refine lv_iload hx hb dX0_ordersWonByAll_64 (lv_at hl 3 rfl) ?_
        obtain ⟨i14, hq⟩ := hq
        refine va_lald hx hb hK hP 3 1 rfl rfl i14 dX0_ordersWonByAll_66 ?_
        refine lv_lconst (v := (0 : Int64)) hx hb dX0_ordersWonByAll_67 (by decide) ?_
        refine lc_eq (tgt := 80) hx hb dX0_ordersWonByAll_68 dX0_ordersWonByAll_69 (by decide) (fun c15 => ?_) (fun c15 => ?_)
        · have hq := hq.1 c15
          exact B80 x2 x3 x4 l_ways _ _ _ hq hP hD hS (lv_sub hl [0, 1, 2, 3] rfl)
        · have hq := hq.2 c15
          refine lv_aload_n hx hb dX0_ordersWonByAll_72 rfl (lv_at hl 0 rfl) ?_
          refine lv_iload hx hb dX0_ordersWonByAll_73 (lv_at hl 3 rfl) ?_
          refine lv_iload_n hx hb dX0_ordersWonByAll_75 rfl (lv_at hl 2 rfl) ?_
          refine lv_iload_n hx hb dX0_ordersWonByAll_76 rfl (lv_at hl 1 rfl) ?_
          refine swv (runV ⟨hx, hb, hml, hown, hts⟩ wf_X0_placeNextThing ml_X0_45 (c0_placeNextThing l dC dI cs al bx _ l_len l_ways l_box x4 x3 x2 hq) ⟨⟨rfl, rfl⟩, by decide, by decide⟩ (preW hP hK hN hD) hK hP rfl 0 rfl rfl hl.1 rfl (Nat.le_of_ble_eq_true rfl) dX0_ordersWonByAll_77 ⟨(Nat.le_of_ble_eq_true rfl), (Nat.le_of_ble_eq_true rfl)⟩) hD hS hA (fun  l_ways_16 H locs hq hP hD hS => ?_)
          have hP : va_P (dC, dI) vwCl (wX0 cs al bx l_len l_ways_16 l_box) H := hP
          have hD : va_D A (wX0 cs al bx l_len l_ways_16 l_box) := hD
          exact B80 x2 x3 x4 l_ways_16 _ _ _ hq hP hD hS (lv_sub hl [0, 1, 2, 3] rfl)
  have B44 : ∀ (x2 : Int32) (x3 : Int32) (l_ways : Nat → Int64) (H : Heap) (locs : List Loc) (ls : Array Slot), q0_ordersWonByAll_44 l_len l_box Q x2 x3 l_ways → va_P (dC, dI) vwCl (wX0 cs al bx l_len l_ways l_box) H → va_D A (wX0 cs al bx l_len l_ways l_box) → va_S A s.heap H locs → lv_has ls 5 [(0, .ref (al 0)), (2, .int x2), (3, .int x3)] → W p l e ({ frames := 3, cells := 0, slots := 0, locals := 70 } : Room) s m ([.ref (al 0), .int a1, .int a2] : List Value).toArray below meth c H locs 0 0 (MQ below (va_Ql (fun (r : Int64) (u : (Nat → Int64)) => Q r u) (Bw (dC, dI) (KA cs) A (fun u : (Nat → Int64) => (wX0 cs al bx l_len u l_box))) A) ([.ref (al 0), .int a1, .int a2] : List Value).toArray s 0 0 A) (F0 m 44 ls []) := by
    intro x2 x3 l_ways H locs ls hq hP hD hS hl
    unfold q0_ordersWonByAll_44 at hq
    refine lv_aload_n hx hb dX0_ordersWonByAll_44 rfl (lv_at hl 0 rfl) ?_
    refine va_get (D := (dC, dI)) (ci := 0) (v := .ref (al 3)) (C := RX0) (T := TX0) (N := 3) hx hb hts uwX0 hown hK hP 0 rfl rfl 2 (by decide) (hts _ fl_X0_20) (fun _ h9 => h9) rfl dX0_ordersWonByAll_45 ?_
    refine lv_iconst (v := (0 : Int32)) hx hb dX0_ordersWonByAll_48 (by decide) ?_
    refine lv_lconst (v := (1 : Int64)) hx hb dX0_ordersWonByAll_49 (by decide) ?_
    obtain ⟨i18, hq⟩ := hq
    refine va_last hx hb hK hP hD hS 3 1 rfl rfl i18 dX0_ordersWonByAll_50 (fun H locs hP hD hS => ?_)
    have hP : va_P (dC, dI) vwCl (wX0 cs al bx l_len (vp_updL l_ways (0 : Int32).toNatClampNeg (1 : Int64)) l_box) H := hP
    have hD : va_D A (wX0 cs al bx l_len (vp_updL l_ways (0 : Int32).toNatClampNeg (1 : Int64)) l_box) := hD
    refine lv_iconst (v := (0 : Int32)) hx hb dX0_ordersWonByAll_51 (by decide) ?_
    refine lv_istore (lv' := [(4, .int (0 : Int32)), (0, .ref (al 0)), (2, .int x2), (3, .int x3)]) hx hb dX0_ordersWonByAll_52 hl (by decide) rfl (fun ls hl => ?_)
    obtain ⟨kf, hq⟩ := hq
    exact B54 kf x2 x3 (0 : Int32) (vp_updL l_ways (0 : Int32).toNatClampNeg (1 : Int64)) _ _ _ hq hP hD hS (lv_sub hl [1, 2, 3, 0] rfl)
  have B24 : ∀ (k24 : Nat) (x2 : Int32) (x3 : Int32) (x4 : Int32) (l_ways : Nat → Int64) (H : Heap) (locs : List Loc) (ls : Array Slot), q0_ordersWonByAll_24 l_len l_box Q k24 x2 x3 x4 l_ways → va_P (dC, dI) vwCl (wX0 cs al bx l_len l_ways l_box) H → va_D A (wX0 cs al bx l_len l_ways l_box) → va_S A s.heap H locs → lv_has ls 5 [(0, .ref (al 0)), (2, .int x2), (3, .int x3), (4, .int x4)] → W p l e ({ frames := 3, cells := 0, slots := 0, locals := 70 } : Room) s m ([.ref (al 0), .int a1, .int a2] : List Value).toArray below meth c H locs 0 0 (MQ below (va_Ql (fun (r : Int64) (u : (Nat → Int64)) => Q r u) (Bw (dC, dI) (KA cs) A (fun u : (Nat → Int64) => (wX0 cs al bx l_len u l_box))) A) ([.ref (al 0), .int a1, .int a2] : List Value).toArray s 0 0 A) (F0 m 24 ls []) := by
    intro k24
    induction k24 with
    | zero => intro x2 x3 x4 l_ways H locs ls hq; exact False.elim hq
    | succ k24 ih24 =>
      intro x2 x3 x4 l_ways H locs ls hq hP hD hS hl
      unfold q0_ordersWonByAll_24 at hq
      refine lv_iload hx hb dX0_ordersWonByAll_24 (lv_at hl 3 rfl) ?_
      refine lv_iload_n hx hb dX0_ordersWonByAll_26 rfl (lv_at hl 2 rfl) ?_
      refine lv_icmp_gt (tgt := 44) hx hb dX0_ordersWonByAll_27 (by decide) (fun c19 => ?_) (fun c19 => ?_)
      · have hq := hq.1 c19
        exact B44 x2 x3 l_ways _ _ _ hq hP hD hS (lv_sub hl [0, 1, 2] rfl)
      · have hq := hq.2 c19
        refine lv_aload_n hx hb dX0_ordersWonByAll_30 rfl (lv_at hl 0 rfl) ?_
        refine va_get (D := (dC, dI)) (ci := 0) (v := .ref (al 3)) (C := RX0) (T := TX0) (N := 3) hx hb hts uwX0 hown hK hP 0 rfl rfl 2 (by decide) (hts _ fl_X0_20) (fun _ h9 => h9) rfl dX0_ordersWonByAll_31 ?_
        refine lv_iload hx hb dX0_ordersWonByAll_34 (lv_at hl 3 rfl) ?_
        refine lv_lconst (v := (0 : Int64)) hx hb dX0_ordersWonByAll_36 (by decide) ?_
        obtain ⟨i20, hq⟩ := hq
        refine va_last hx hb hK hP hD hS 3 1 rfl rfl i20 dX0_ordersWonByAll_37 (fun H locs hP hD hS => ?_)
        have hP : va_P (dC, dI) vwCl (wX0 cs al bx l_len (vp_updL l_ways x4.toNatClampNeg (0 : Int64)) l_box) H := hP
        have hD : va_D A (wX0 cs al bx l_len (vp_updL l_ways x4.toNatClampNeg (0 : Int64)) l_box) := hD
        refine lv_iinc (v := (x4 + (1 : Int32))) (lv' := [(4, .int (x4 + (1 : Int32))), (0, .ref (al 0)), (2, .int x2), (3, .int x3)]) hx hb dX0_ordersWonByAll_38 hl (k := 3) rfl (by rfl) (by decide) rfl (fun ls hl => ?_)
        refine lv_goto (tgt := 24) hx hb dX0_ordersWonByAll_41 (by decide) ?_
        exact ih24 x2 x3 (x4 + (1 : Int32)) (vp_updL l_ways x4.toNatClampNeg (0 : Int64)) _ _ _ hq hP hD hS (lv_sub hl [1, 2, 3, 0] rfl)
  unfold q0_ordersWonByAll at hq
  refine lv_iload_n hx hb dX0_ordersWonByAll_0 rfl (lv_at hl 1 rfl) ?_
  refine lv_iconst (v := (1 : Int32)) hx hb dX0_ordersWonByAll_1 (by decide) ?_
  refine lv_icmp_lt (tgt := 11) hx hb dX0_ordersWonByAll_2 (by decide) (fun c21 => ?_) (fun c21 => ?_)
  · have hq := hq.1 c21
    refine lv_ldc2 (v := (-3 : Int64)) hx hb hown (hts _ kl_X0_43) dX0_ordersWonByAll_11 ?_
    exact W.lret (v := (-3 : Int64)) hx hb hr (fun t ht hW => ⟨⟨(-3 : Int64), l_ways, rfl, hq, Bw_mk (by rw [ht]; exact hP) (va_K.moved hW.alike hK) hD⟩, hS.F ht⟩) hS.2.2 dX0_ordersWonByAll_14
  · have hq := hq.2 c21
    refine lv_iload_n hx hb dX0_ordersWonByAll_5 rfl (lv_at hl 1 rfl) ?_
    refine lv_bipush (v := (7 : Int32)) hx hb dX0_ordersWonByAll_6 (by decide) ?_
    refine lv_icmp_le (tgt := 15) hx hb dX0_ordersWonByAll_8 (by decide) (fun c22 => ?_) (fun c22 => ?_)
    · have hq := hq.1 c22
      refine lv_iconst (v := (1 : Int32)) hx hb dX0_ordersWonByAll_15 (by decide) ?_
      refine lv_iload_n hx hb dX0_ordersWonByAll_16 rfl (lv_at hl 1 rfl) ?_
      refine lv_ishl hx hb dX0_ordersWonByAll_17 ?_
      refine lv_iconst (v := (1 : Int32)) hx hb dX0_ordersWonByAll_18 (by decide) ?_
      refine lv_isub hx hb dX0_ordersWonByAll_19 ?_
      refine lv_istore_n (lv' := [(3, .int (((1 : Int32) <<< (a1 &&& 31)) - (1 : Int32))), (0, .ref (al 0)), (1, .int a1), (2, .int a2)]) hx hb dX0_ordersWonByAll_20 rfl hl (by decide) rfl (fun ls hl => ?_)
      refine lv_iconst (v := (0 : Int32)) hx hb dX0_ordersWonByAll_21 (by decide) ?_
      refine lv_istore (lv' := [(4, .int (0 : Int32)), (3, .int (((1 : Int32) <<< (a1 &&& 31)) - (1 : Int32))), (0, .ref (al 0)), (1, .int a1), (2, .int a2)]) hx hb dX0_ordersWonByAll_22 hl (by decide) rfl (fun ls hl => ?_)
      obtain ⟨kf, hq⟩ := hq
      exact B24 kf a2 (((1 : Int32) <<< (a1 &&& 31)) - (1 : Int32)) (0 : Int32) l_ways _ _ _ hq hP hD hS (lv_sub hl [2, 4, 1, 0] rfl)
    · have hq := hq.2 c22
      refine lv_ldc2 (v := (-3 : Int64)) hx hb hown (hts _ kl_X0_43) dX0_ordersWonByAll_11 ?_
      exact W.lret (v := (-3 : Int64)) hx hb hr (fun t ht hW => ⟨⟨(-3 : Int64), l_ways, rfl, hq, Bw_mk (by rw [ht]; exact hP) (va_K.moved hW.alike hK) hD⟩, hS.F ht⟩) hS.2.2 dX0_ordersWonByAll_14
set_option maxHeartbeats 4000000 in
set_option maxRecDepth 100000 in
theorem c4_greatest (l : Launch) (dC : Nat → ClassId) (dI : Nat → Nat → Nat) (cs : Nat → ClassId) (a0 : Int32) (a1 : Int32) {Q : Int32 → Prop} (hq : q4_greatest a0 a1 Q) : Met l yX4_greatest (.code yX4_greatest cX4_greatest 2 (some .int) :: gt) ({ frames := 1, cells := 0, slots := 0, locals := 21 } : Room) (va_Pc [.int a0, .int a1] (Pr (dC, dI) (KA cs) ([] : va_W))) (vp_Si Q) 0 0 (fun _ => False) := by
  refine Met.ofW (cc := cX4_greatest) (maxL := 2) (ret := (some .int)) (by decide) rfl ?_
  intro p e s m args below meth c s₁ B hml hv
  obtain ⟨rfl, hP, hK, hN⟩ := hv
  have hx := B.exec
  have hb := B.bytes
  have hr := B.returns
  have hts0 := atoms_spec (ws := (.code yX4_greatest cX4_greatest 2 (some .int) :: gt)) B.pre
  have hts : ∀ w ∈ gt, w.before _ s = true := fun w h => hts0 w (List.mem_cons_of_mem _ h)
  have hown : s.vm.findClass RX4 = some m.cls := findClass_of_methodNamed B.named
  have hlocks := B.notSynchronized
  have hl := lv_entry ([.int a0, .int a1]) (n := 2) (Nat.le_of_ble_eq_true rfl)
  rw [lg_entry_eq]
  generalize (lg_sl ([.int a0, .int a1]) ++ List.replicate (2 - (lg_sl ([.int a0, .int a1])).length) Slot.unset).toArray = ls at hl ⊢
  have hl : lv_has ls 2 [(0, .int a0), (1, .int a1)] := hl
  unfold q4_greatest at hq
  refine lv_iload_n hx hb dX4_greatest_0 rfl (lv_at hl 0 rfl) ?_
  by_cases c4 : a0 = (5 : Int32)
  · have hq := hq.1 c4
    refine lv_lookup (tgt := 28) (off := 27) hx hb dX4_greatest_1 (by decide) (by rw [c4]; rfl) (by decide) ?_
    refine lv_iconst (v := (0 : Int32)) hx hb dX4_greatest_28 (by decide) ?_
    refine lv_iload_n hx hb dX4_greatest_29 rfl (lv_at hl 1 rfl) ?_
    refine lv_iload_n hx hb dX4_greatest_30 rfl (lv_at hl 1 rfl) ?_
    refine lv_iconst (v := (1 : Int32)) hx hb dX4_greatest_31 (by decide) ?_
    refine lv_isub hx hb dX4_greatest_32 ?_
    refine lv_imul hx hb dX4_greatest_33 ?_
    refine lv_iconst (v := (2 : Int32)) hx hb dX4_greatest_34 (by decide) ?_
    obtain ⟨z5, hq⟩ := hq
    refine lv_idiv hx hb dX4_greatest_35 z5 ?_
    refine va_mmax hx hb (hml.trans hl.1.symm) hown (hts _ ml_X4_37) (hts _ sm_J9_max) (hts _ in_J9) (hts _ cw_J9_max) (Nat.le_of_ble_eq_true rfl) (Nat.le_of_ble_eq_true rfl) (Nat.le_of_ble_eq_true rfl) (Nat.le_of_ble_eq_true rfl) dX4_greatest_36 ?_
    exact W.iret (v := (if (0 : Int32) < ((a1 * (a1 - (1 : Int32))) / (2 : Int32)) then ((a1 * (a1 - (1 : Int32))) / (2 : Int32)) else (0 : Int32))) hx hb hr (fun t ht hW => ⟨(if (0 : Int32) < ((a1 * (a1 - (1 : Int32))) / (2 : Int32)) then ((a1 * (a1 - (1 : Int32))) / (2 : Int32)) else (0 : Int32)), rfl, hq, ht⟩) (fun q h => absurd h List.not_mem_nil) dX4_greatest_39
  have hq := hq.2 c4
  by_cases c6 : a0 = (7 : Int32)
  · have hq := hq.1 c6
    refine lv_lookup (tgt := 40) (off := 39) hx hb dX4_greatest_1 (by decide) (by rw [c6]; rfl) (by decide) ?_
    refine lv_sipush (v := (210 : Int32)) hx hb dX4_greatest_40 (by decide) ?_
    exact W.iret (v := (210 : Int32)) hx hb hr (fun t ht hW => ⟨(210 : Int32), rfl, hq, ht⟩) (fun q h => absurd h List.not_mem_nil) dX4_greatest_43
  have hq := hq.2 c6
  refine lv_lookup (tgt := 44) (off := 43) hx hb dX4_greatest_1 (by decide) (lk2 (fun e => c4 (Int32.toInt_inj.mp e.symm)) (fun e => c6 (Int32.toInt_inj.mp e.symm))) (by decide) ?_
  refine lv_iconst (v := (0 : Int32)) hx hb dX4_greatest_44 (by decide) ?_
  refine lv_iload_n hx hb dX4_greatest_45 rfl (lv_at hl 1 rfl) ?_
  refine va_mmax hx hb (hml.trans hl.1.symm) hown (hts _ ml_X4_37) (hts _ sm_J9_max) (hts _ in_J9) (hts _ cw_J9_max) (Nat.le_of_ble_eq_true rfl) (Nat.le_of_ble_eq_true rfl) (Nat.le_of_ble_eq_true rfl) (Nat.le_of_ble_eq_true rfl) dX4_greatest_46 ?_
  exact W.iret (v := (if (0 : Int32) < a1 then a1 else (0 : Int32))) hx hb hr (fun t ht hW => ⟨(if (0 : Int32) < a1 then a1 else (0 : Int32)), rfl, hq, ht⟩) (fun q h => absurd h List.not_mem_nil) dX4_greatest_49
set_option maxHeartbeats 4000000 in
set_option maxRecDepth 100000 in
theorem c4_fromTables (l : Launch) (dC : Nat → ClassId) (dI : Nat → Nat → Nat) (cs : Nat → ClassId) (ax : Nat → Nat) (at_ : Nat → Nat) (rr : Nat → Nat) (ru : Nat → Nat) (yn : Nat) (y_size : Int32) (y_ord : Nat → Int64) (t_fac : Nat → Int64) (t_der : Nat → Int64) (t_rec : Nat → Nat → Int64) (t_rut : Nat → Nat → Int64) (t_ris : Nat → Int64) (a1 : Int32) (a2 : Int32) {Q : Int64 → Prop} (hq : q4_fromTables y_size t_der t_rec t_rut t_ris a1 a2 Q) : Met l yX4_fromTables (.code yX4_fromTables cX4_fromTables 3 (some .long) :: gt) ({ frames := 2, cells := 0, slots := 0, locals := 47 } : Room) (va_Pc [.ref (ax 0), .int a1, .int a2] (Pr (dC, dI) (KA cs) ((wX4 cs ax at_ yn y_size y_ord) ++ (wX3 cs at_ rr ru t_fac t_der t_rec t_rut t_ris)))) (vp_Sl Q) 0 0 (fun _ => False) := by
  refine Met.ofW (cc := cX4_fromTables) (maxL := 3) (ret := (some .long)) (by decide) rfl ?_
  intro p e s m args below meth c s₁ B hml hv
  obtain ⟨rfl, hP0, hK, hN⟩ := hv
  have hP := va_P_l hP0
  have hO := va_P_r hP0
  have hx := B.exec
  have hb := B.bytes
  have hr := B.returns
  have hts0 := atoms_spec (ws := (.code yX4_fromTables cX4_fromTables 3 (some .long) :: gt)) B.pre
  have hts : ∀ w ∈ gt, w.before _ s = true := fun w h => hts0 w (List.mem_cons_of_mem _ h)
  have hown : s.vm.findClass RX4 = some m.cls := findClass_of_methodNamed B.named
  have hlocks := B.notSynchronized
  have hl := lv_entry ([.ref (ax 0), .int a1, .int a2]) (n := 3) (Nat.le_of_ble_eq_true rfl)
  rw [lg_entry_eq]
  generalize (lg_sl ([.ref (ax 0), .int a1, .int a2]) ++ List.replicate (3 - (lg_sl ([.ref (ax 0), .int a1, .int a2])).length) Slot.unset).toArray = ls at hl ⊢
  have hl : lv_has ls 3 [(0, .ref (ax 0)), (1, .int a1), (2, .int a2)] := hl
  have B36 : ∀ (x2 : Int32) (ls : Array Slot), q4_fromTables_36 y_size t_der t_rec t_rut t_ris Q x2 → lv_has ls 3 [(0, .ref (ax 0)), (2, .int x2)] → W p l e ({ frames := 2, cells := 0, slots := 0, locals := 47 } : Room) s m ([.ref (ax 0), .int a1, .int a2] : List Value).toArray below meth c s.heap [] 0 0 (MQ below (vp_Sl Q) ([.ref (ax 0), .int a1, .int a2] : List Value).toArray s 0 0 (fun _ => False)) (F0 m 36 ls []) := by
    intro x2 ls hq hl
    unfold q4_fromTables_36 at hq
    refine lv_aload_n hx hb dX4_fromTables_36 rfl (lv_at hl 0 rfl) ?_
    refine va_get (D := (dC, dI)) (ci := 4) (v := .ref (at_ 0)) (C := RX4) (T := TX4) (N := 3) hx hb hts uwX4 hown hK hP 0 rfl rfl 1 (by decide) (hts _ fl_X4_15) (fun _ h9 => h9) rfl dX4_fromTables_37 ?_
    refine lv_aload_n hx hb dX4_fromTables_40 rfl (lv_at hl 0 rfl) ?_
    refine va_get (D := (dC, dI)) (ci := 4) (v := .int y_size) (C := RX4) (T := TX4) (N := 3) hx hb hts uwX4 hown hK hP 0 rfl rfl 0 (by decide) (hts _ fl_X4_9) (fun _ h9 => h9) rfl dX4_fromTables_41 ?_
    refine lv_aload_n hx hb dX4_fromTables_44 rfl (lv_at hl 0 rfl) ?_
    refine va_get (D := (dC, dI)) (ci := 4) (v := .int y_size) (C := RX4) (T := TX4) (N := 3) hx hb hts uwX4 hown hK hP 0 rfl rfl 0 (by decide) (hts _ fl_X4_9) (fun _ h9 => h9) rfl dX4_fromTables_45 ?_
    refine lv_iload_n hx hb dX4_fromTables_48 rfl (lv_at hl 1 rfl) ?_
    refine rol (runV ⟨hx, hb, hml, hown, hts⟩ wf_X3_withRecords ml_X4_46 (c3_withRecords l dC dI cs at_ rr ru t_fac t_der t_rec t_rut t_ris y_size y_size x2 hq) ⟨⟨rfl, rfl⟩, by decide, by decide⟩ (preR hO hK hN) hK hO rfl 0 rfl rfl hl.1 rfl (Nat.le_of_ble_eq_true rfl) dX4_fromTables_49 ⟨(Nat.le_of_ble_eq_true rfl), (Nat.le_of_ble_eq_true rfl)⟩) (fun r11 hq => ?_)
    exact W.lret (v := r11) hx hb hr (fun t ht hW => ⟨r11, rfl, hq, ht⟩) (fun q h => absurd h List.not_mem_nil) dX4_fromTables_52
  unfold q4_fromTables at hq
  refine lv_iload_n hx hb dX4_fromTables_0 rfl (lv_at hl 1 rfl) ?_
  by_cases c12 : a1 = (0 : Int32)
  · have hq := hq.1 c12
    refine lv_tableIn (tgt := 36) hx hb dX4_fromTables_1 (by rw [c12]; decide) (by rw [c12]; decide) (by rw [c12]; rfl) (by decide) ?_
    exact B36 a2 _ hq (lv_sub hl [0, 2] rfl)
  have hq := hq.2 c12
  by_cases c13 : a1 = (1 : Int32)
  · have hq := hq.1 c13
    refine lv_tableIn (tgt := 36) hx hb dX4_fromTables_1 (by rw [c13]; decide) (by rw [c13]; decide) (by rw [c13]; rfl) (by decide) ?_
    exact B36 a2 _ hq (lv_sub hl [0, 2] rfl)
  have hq := hq.2 c13
  by_cases c14 : a1 = (2 : Int32)
  · have hq := hq.1 c14
    refine lv_tableIn (tgt := 53) hx hb dX4_fromTables_1 (by rw [c14]; decide) (by rw [c14]; decide) (by rw [c14]; rfl) (by decide) ?_
    refine lv_aload_n hx hb dX4_fromTables_53 rfl (lv_at hl 0 rfl) ?_
    refine va_get (D := (dC, dI)) (ci := 4) (v := .ref (at_ 0)) (C := RX4) (T := TX4) (N := 3) hx hb hts uwX4 hown hK hP 0 rfl rfl 1 (by decide) (hts _ fl_X4_15) (fun _ h9 => h9) rfl dX4_fromTables_54 ?_
    refine lv_aload_n hx hb dX4_fromTables_57 rfl (lv_at hl 0 rfl) ?_
    refine va_get (D := (dC, dI)) (ci := 4) (v := .int y_size) (C := RX4) (T := TX4) (N := 3) hx hb hts uwX4 hown hK hP 0 rfl rfl 0 (by decide) (hts _ fl_X4_9) (fun _ h9 => h9) rfl dX4_fromTables_58 ?_
    refine lv_aload_n hx hb dX4_fromTables_61 rfl (lv_at hl 0 rfl) ?_
    refine va_get (D := (dC, dI)) (ci := 4) (v := .int y_size) (C := RX4) (T := TX4) (N := 3) hx hb hts uwX4 hown hK hP 0 rfl rfl 0 (by decide) (hts _ fl_X4_9) (fun _ h9 => h9) rfl dX4_fromTables_62 ?_
    refine lv_iload_n hx hb dX4_fromTables_65 rfl (lv_at hl 2 rfl) ?_
    refine rol (runV ⟨hx, hb, hml, hown, hts⟩ wf_X3_withRises ml_X4_52 (c3_withRises l dC dI cs at_ rr ru t_fac t_der t_rec t_rut t_ris y_size y_size a2 hq) ⟨⟨rfl, rfl⟩, by decide, by decide⟩ (preR hO hK hN) hK hO rfl 0 rfl rfl hl.1 rfl (Nat.le_of_ble_eq_true rfl) dX4_fromTables_66 ⟨(Nat.le_of_ble_eq_true rfl), (Nat.le_of_ble_eq_true rfl)⟩) (fun r15 hq => ?_)
    exact W.lret (v := r15) hx hb hr (fun t ht hW => ⟨r15, rfl, hq, ht⟩) (fun q h => absurd h List.not_mem_nil) dX4_fromTables_69
  have hq := hq.2 c14
  by_cases c16 : a1 = (3 : Int32)
  · have hq := hq.1 c16
    refine lv_tableIn (tgt := 70) hx hb dX4_fromTables_1 (by rw [c16]; decide) (by rw [c16]; decide) (by rw [c16]; rfl) (by decide) ?_
    refine lv_aload_n hx hb dX4_fromTables_70 rfl (lv_at hl 0 rfl) ?_
    refine va_get (D := (dC, dI)) (ci := 4) (v := .ref (at_ 0)) (C := RX4) (T := TX4) (N := 3) hx hb hts uwX4 hown hK hP 0 rfl rfl 1 (by decide) (hts _ fl_X4_15) (fun _ h9 => h9) rfl dX4_fromTables_71 ?_
    refine lv_aload_n hx hb dX4_fromTables_74 rfl (lv_at hl 0 rfl) ?_
    refine va_get (D := (dC, dI)) (ci := 4) (v := .int y_size) (C := RX4) (T := TX4) (N := 3) hx hb hts uwX4 hown hK hP 0 rfl rfl 0 (by decide) (hts _ fl_X4_9) (fun _ h9 => h9) rfl dX4_fromTables_75 ?_
    refine lv_iload_n hx hb dX4_fromTables_78 rfl (lv_at hl 2 rfl) ?_
    refine rol (runV ⟨hx, hb, hml, hown, hts⟩ wf_X3_withStill ml_X4_55 (c3_withStill l dC dI cs at_ rr ru t_fac t_der t_rec t_rut t_ris y_size a2 hq) ⟨⟨rfl, rfl⟩, by decide, by decide⟩ (preR hO hK hN) hK hO rfl 0 rfl rfl hl.1 rfl (Nat.le_of_ble_eq_true rfl) dX4_fromTables_79 ⟨(Nat.le_of_ble_eq_true rfl), (Nat.le_of_ble_eq_true rfl)⟩) (fun r17 hq => ?_)
    exact W.lret (v := r17) hx hb hr (fun t ht hW => ⟨r17, rfl, hq, ht⟩) (fun q h => absurd h List.not_mem_nil) dX4_fromTables_82
  have hq := hq.2 c16
  by_cases c18 : a1 = (4 : Int32)
  · have hq := hq.1 c18
    refine lv_tableIn (tgt := 83) hx hb dX4_fromTables_1 (by rw [c18]; decide) (by rw [c18]; decide) (by rw [c18]; rfl) (by decide) ?_
    refine lv_aload_n hx hb dX4_fromTables_83 rfl (lv_at hl 0 rfl) ?_
    refine va_get (D := (dC, dI)) (ci := 4) (v := .ref (at_ 0)) (C := RX4) (T := TX4) (N := 3) hx hb hts uwX4 hown hK hP 0 rfl rfl 1 (by decide) (hts _ fl_X4_15) (fun _ h9 => h9) rfl dX4_fromTables_84 ?_
    refine lv_iload_n hx hb dX4_fromTables_87 rfl (lv_at hl 2 rfl) ?_
    refine lv_aload_n hx hb dX4_fromTables_88 rfl (lv_at hl 0 rfl) ?_
    refine va_get (D := (dC, dI)) (ci := 4) (v := .int y_size) (C := RX4) (T := TX4) (N := 3) hx hb hts uwX4 hown hK hP 0 rfl rfl 0 (by decide) (hts _ fl_X4_9) (fun _ h9 => h9) rfl dX4_fromTables_89 ?_
    refine rol (runV ⟨hx, hb, hml, hown, hts⟩ wf_X3_withRoundsUpTo ml_X4_58 (c3_withRoundsUpTo l dC dI cs at_ rr ru t_fac t_der t_rec t_rut t_ris a2 y_size hq) ⟨⟨rfl, rfl⟩, by decide, by decide⟩ (preR hO hK hN) hK hO rfl 0 rfl rfl hl.1 rfl (Nat.le_of_ble_eq_true rfl) dX4_fromTables_92 ⟨(Nat.le_of_ble_eq_true rfl), (Nat.le_of_ble_eq_true rfl)⟩) (fun r19 hq => ?_)
    refine lv_aload_n hx hb dX4_fromTables_95 rfl (lv_at hl 0 rfl) ?_
    refine va_get (D := (dC, dI)) (ci := 4) (v := .ref (at_ 0)) (C := RX4) (T := TX4) (N := 3) hx hb hts uwX4 hown hK hP 0 rfl rfl 1 (by decide) (hts _ fl_X4_15) (fun _ h9 => h9) rfl dX4_fromTables_96 ?_
    refine lv_iload_n hx hb dX4_fromTables_99 rfl (lv_at hl 2 rfl) ?_
    refine lv_iconst (v := (1 : Int32)) hx hb dX4_fromTables_100 (by decide) ?_
    refine lv_isub hx hb dX4_fromTables_101 ?_
    refine lv_aload_n hx hb dX4_fromTables_102 rfl (lv_at hl 0 rfl) ?_
    refine va_get (D := (dC, dI)) (ci := 4) (v := .int y_size) (C := RX4) (T := TX4) (N := 3) hx hb hts uwX4 hown hK hP 0 rfl rfl 0 (by decide) (hts _ fl_X4_9) (fun _ h9 => h9) rfl dX4_fromTables_103 ?_
    refine rol (runV ⟨hx, hb, hml, hown, hts⟩ wf_X3_withRoundsUpTo ml_X4_58 (c3_withRoundsUpTo l dC dI cs at_ rr ru t_fac t_der t_rec t_rut t_ris (a2 - (1 : Int32)) y_size hq) ⟨⟨rfl, rfl⟩, by decide, by decide⟩ (preR hO hK hN) hK hO rfl 0 rfl rfl hl.1 rfl (Nat.le_of_ble_eq_true rfl) dX4_fromTables_106 ⟨(Nat.le_of_ble_eq_true rfl), (Nat.le_of_ble_eq_true rfl)⟩) (fun r20 hq => ?_)
    refine lv_lsub hx hb dX4_fromTables_109 ?_
    exact W.lret (v := (r19 - r20)) hx hb hr (fun t ht hW => ⟨(r19 - r20), rfl, hq, ht⟩) (fun q h => absurd h List.not_mem_nil) dX4_fromTables_110
  have hq := hq.2 c18
  refine lv_tableOut (tgt := 111) hx hb dX4_fromTables_1 (by have := i32_ne c12 ; have := i32_ne c13 ; have := i32_ne c14 ; have := i32_ne c16 ; have := i32_ne c18; simp at *; omega) (by decide) ?_
  refine lv_lconst (v := (0 : Int64)) hx hb dX4_fromTables_111 (by decide) ?_
  exact W.lret (v := (0 : Int64)) hx hb hr (fun t ht hW => ⟨(0 : Int64), rfl, hq, ht⟩) (fun q h => absurd h List.not_mem_nil) dX4_fromTables_112
set_option maxHeartbeats 4000000 in
set_option maxRecDepth 100000 in
theorem c4_fillByTables (l : Launch) (dC : Nat → ClassId) (dI : Nat → Nat → Nat) (cs : Nat → ClassId) (ax : Nat → Nat) (at_ : Nat → Nat) (rr : Nat → Nat) (ru : Nat → Nat) (sz : Nat) (yn : Nat) (y_size : Int32) (y_ord : Nat → Int64) (t_fac : Nat → Int64) (t_der : Nat → Int64) (t_rec : Nat → Nat → Int64) (t_rut : Nat → Nat → Int64) (t_ris : Nat → Int64) (a1 : Int32) {Q : (Nat → Int64) → Prop} (hq : q4_fillByTables yn y_size t_der t_rec t_rut t_ris y_ord a1 Q) : Met l yX4_fillByTables (.code yX4_fillByTables cX4_fillByTables 3 none :: gt) ({ frames := 3, cells := 0, slots := 0, locals := 69 } : Room) (va_Pc [.ref (ax 0), .int a1] (Pw2 (dC, dI) (KA cs) (wX4 cs ax at_ yn y_size y_ord) (wX3 cs at_ rr ru t_fac t_der t_rec t_rut t_ris) sz)) (va_Qv (fun (u : (Nat → Int64)) => Q u) (Bw (dC, dI) (KA cs) (va_A (wX4 cs ax at_ yn y_size y_ord) sz) (fun u : (Nat → Int64) => (wX4 cs ax at_ yn y_size u))) (va_A (wX4 cs ax at_ yn y_size y_ord) sz)) 0 0 (va_A (wX4 cs ax at_ yn y_size y_ord) sz) := by
  refine Met.ofW (cc := cX4_fillByTables) (maxL := 3) (ret := none) (by decide) rfl ?_
  intro p e s m args below meth c s₁ B hml hv
  obtain ⟨rfl, hsz, hP0, hK, hD1, hN⟩ := hv
  have hP := va_P_l hP0
  have hO := va_P_r hP0
  have hD0 := va_D_l hD1
  have hDO := va_D_r hD1
  have hx := B.exec
  have hb := B.bytes
  have hr := B.returns
  have hts0 := atoms_spec (ws := (.code yX4_fillByTables cX4_fillByTables 3 none :: gt)) B.pre
  have hts : ∀ w ∈ gt, w.before _ s = true := fun w h => hts0 w (List.mem_cons_of_mem _ h)
  have hown : s.vm.findClass RX4 = some m.cls := findClass_of_methodNamed B.named
  have hlocks := B.notSynchronized
  subst hsz
  have hD := hD0.self (sz := s.heap.size)
  have hNA := na_of hP0 hD1
  generalize hAe : va_A (wX4 cs ax at_ yn y_size y_ord) s.heap.size = A at hD hNA ⊢
  have hA : ∀ q : Nat, s.heap.size ≤ q → A q := fun q h => by rw [← hAe]; exact Or.inr h
  have hS : va_S A s.heap s.heap [] := va_S.rf
  have hl := lv_entry ([.ref (ax 0), .int a1]) (n := 3) (Nat.le_of_ble_eq_true rfl)
  rw [lg_entry_eq]
  generalize (lg_sl ([.ref (ax 0), .int a1]) ++ List.replicate (3 - (lg_sl ([.ref (ax 0), .int a1])).length) Slot.unset).toArray = ls at hl ⊢
  have hl : lv_has ls 3 [(0, .ref (ax 0)), (1, .int a1)] := hl
  have B2 : ∀ (k2 : Nat) (x1 : Int32) (x2 : Int32) (y_ord : Nat → Int64) (H : Heap) (locs : List Loc) (ls : Array Slot), q4_fillByTables_2 yn y_size t_der t_rec t_rut t_ris Q k2 x1 x2 y_ord → va_P (dC, dI) vwCl (wX4 cs ax at_ yn y_size y_ord) H → va_D A (wX4 cs ax at_ yn y_size y_ord) → va_S A s.heap H locs → lv_has ls 3 [(0, .ref (ax 0)), (1, .int x1), (2, .int x2)] → W p l e ({ frames := 3, cells := 0, slots := 0, locals := 69 } : Room) s m ([.ref (ax 0), .int a1] : List Value).toArray below meth c H locs 0 0 (MQ below (va_Qv (fun (u : (Nat → Int64)) => Q u) (Bw (dC, dI) (KA cs) A (fun u : (Nat → Int64) => (wX4 cs ax at_ yn y_size u))) A) ([.ref (ax 0), .int a1] : List Value).toArray s 0 0 A) (F0 m 2 ls []) := by
    intro k2
    induction k2 with
    | zero => intro x1 x2 y_ord H locs ls hq; exact False.elim hq
    | succ k2 ih2 =>
      intro x1 x2 y_ord H locs ls hq hP hD hS hl
      unfold q4_fillByTables_2 at hq
      refine lv_iload_n hx hb dX4_fillByTables_2 rfl (lv_at hl 2 rfl) ?_
      refine lv_aload_n hx hb dX4_fillByTables_3 rfl (lv_at hl 0 rfl) ?_
      refine va_get (D := (dC, dI)) (ci := 4) (v := .ref (ax 1)) (C := RX4) (T := TX4) (N := 3) hx hb hts uwX4 hown hK hP 0 rfl rfl 2 (by decide) (hts _ fl_X4_23) (fun _ h9 => h9) rfl dX4_fillByTables_4 ?_
      refine va_alen (v := (Int32.ofNat yn)) hx hb hK hP 1 1 rfl rfl rfl dX4_fillByTables_7 ?_
      refine lv_icmp_ge (tgt := 29) hx hb dX4_fillByTables_8 (by decide) (fun c4 => ?_) (fun c4 => ?_)
      · have hq := hq.1 c4
        exact W.vret hx hb hr (fun t ht hW => ⟨⟨y_ord, rfl, hq, Bw_mk (by rw [ht]; exact hP) (va_K.moved hW.alike hK) hD⟩, hS.F ht⟩) hS.2.2 dX4_fillByTables_29
      · have hq := hq.2 c4
        refine lv_aload_n hx hb dX4_fillByTables_11 rfl (lv_at hl 0 rfl) ?_
        refine va_get (D := (dC, dI)) (ci := 4) (v := .ref (ax 1)) (C := RX4) (T := TX4) (N := 3) hx hb hts uwX4 hown hK hP 0 rfl rfl 2 (by decide) (hts _ fl_X4_23) (fun _ h9 => h9) rfl dX4_fillByTables_12 ?_
        refine lv_iload_n hx hb dX4_fillByTables_15 rfl (lv_at hl 2 rfl) ?_
        refine lv_aload_n hx hb dX4_fillByTables_16 rfl (lv_at hl 0 rfl) ?_
        refine lv_iload_n hx hb dX4_fillByTables_17 rfl (lv_at hl 1 rfl) ?_
        refine lv_iload_n hx hb dX4_fillByTables_18 rfl (lv_at hl 2 rfl) ?_
        refine rol (runV ⟨hx, hb, hml, hown, hts⟩ wf_X4_fromTables ml_X4_42 (c4_fromTables l dC dI cs ax at_ rr ru yn y_size y_ord t_fac t_der t_rec t_rut t_ris x1 x2 hq) ⟨⟨rfl, rfl⟩, by decide, by decide⟩ (preR (va_P_app hP (ro_at hO hNA hS)) hK hN) hK hP rfl 0 rfl rfl hl.1 rfl (Nat.le_of_ble_eq_true rfl) dX4_fillByTables_19 ⟨(Nat.le_of_ble_eq_true rfl), (Nat.le_of_ble_eq_true rfl)⟩) (fun r5 hq => ?_)
        obtain ⟨i6, hq⟩ := hq
        refine va_last hx hb hK hP hD hS 1 1 rfl rfl i6 dX4_fillByTables_22 (fun H locs hP hD hS => ?_)
        have hP : va_P (dC, dI) vwCl (wX4 cs ax at_ yn y_size (vp_updL y_ord x2.toNatClampNeg r5)) H := hP
        have hD : va_D A (wX4 cs ax at_ yn y_size (vp_updL y_ord x2.toNatClampNeg r5)) := hD
        refine lv_iinc (v := (x2 + (1 : Int32))) (lv' := [(2, .int (x2 + (1 : Int32))), (0, .ref (ax 0)), (1, .int x1)]) hx hb dX4_fillByTables_23 hl (k := 2) rfl (by rfl) (by decide) rfl (fun ls hl => ?_)
        refine lv_goto (tgt := 2) hx hb dX4_fillByTables_26 (by decide) ?_
        exact ih2 x1 (x2 + (1 : Int32)) (vp_updL y_ord x2.toNatClampNeg r5) _ _ _ hq hP hD hS (lv_sub hl [1, 2, 0] rfl)
  unfold q4_fillByTables at hq
  refine lv_iconst (v := (0 : Int32)) hx hb dX4_fillByTables_0 (by decide) ?_
  refine lv_istore_n (lv' := [(2, .int (0 : Int32)), (0, .ref (ax 0)), (1, .int a1)]) hx hb dX4_fillByTables_1 rfl hl (by decide) rfl (fun ls hl => ?_)
  obtain ⟨kf, hq⟩ := hq
  exact B2 kf a1 (0 : Int32) y_ord _ _ _ hq hP hD hS (lv_sub hl [1, 2, 0] rfl)
set_option maxHeartbeats 4000000 in
set_option maxRecDepth 100000 in
theorem c4_fillPairsOut (l : Launch) (dC : Nat → ClassId) (dI : Nat → Nat → Nat) (cs : Nat → ClassId) (ax : Nat → Nat) (at_ : Nat → Nat) (rr : Nat → Nat) (ru : Nat → Nat) (sz : Nat) (yn : Nat) (y_size : Int32) (y_ord : Nat → Int64) (t_fac : Nat → Int64) (t_der : Nat → Int64) (t_rec : Nat → Nat → Int64) (t_rut : Nat → Nat → Int64) (t_ris : Nat → Int64) {Q : (Nat → Int64) → Prop} (hq : q4_fillPairsOut yn y_size y_ord Q) : Met l yX4_fillPairsOut (.code yX4_fillPairsOut cX4_fillPairsOut 4 none :: gt) ({ frames := 1, cells := 0, slots := 0, locals := 21 } : Room) (va_Pc [.ref (ax 0)] (Pw2 (dC, dI) (KA cs) (wX4 cs ax at_ yn y_size y_ord) (wX3 cs at_ rr ru t_fac t_der t_rec t_rut t_ris) sz)) (va_Qv (fun (u : (Nat → Int64)) => Q u) (Bw (dC, dI) (KA cs) (va_A (wX4 cs ax at_ yn y_size y_ord) sz) (fun u : (Nat → Int64) => (wX4 cs ax at_ yn y_size u))) (va_A (wX4 cs ax at_ yn y_size y_ord) sz)) 0 0 (va_A (wX4 cs ax at_ yn y_size y_ord) sz) := by
  refine Met.ofW (cc := cX4_fillPairsOut) (maxL := 4) (ret := none) (by decide) rfl ?_
  intro p e s m args below meth c s₁ B hml hv
  obtain ⟨rfl, hsz, hP0, hK, hD1, hN⟩ := hv
  have hP := va_P_l hP0
  have hO := va_P_r hP0
  have hD0 := va_D_l hD1
  have hDO := va_D_r hD1
  have hx := B.exec
  have hb := B.bytes
  have hr := B.returns
  have hts0 := atoms_spec (ws := (.code yX4_fillPairsOut cX4_fillPairsOut 4 none :: gt)) B.pre
  have hts : ∀ w ∈ gt, w.before _ s = true := fun w h => hts0 w (List.mem_cons_of_mem _ h)
  have hown : s.vm.findClass RX4 = some m.cls := findClass_of_methodNamed B.named
  have hlocks := B.notSynchronized
  subst hsz
  have hD := hD0.self (sz := s.heap.size)
  have hNA := na_of hP0 hD1
  generalize hAe : va_A (wX4 cs ax at_ yn y_size y_ord) s.heap.size = A at hD hNA ⊢
  have hA : ∀ q : Nat, s.heap.size ≤ q → A q := fun q h => by rw [← hAe]; exact Or.inr h
  have hS : va_S A s.heap s.heap [] := va_S.rf
  have hl := lv_entry ([.ref (ax 0)]) (n := 4) (Nat.le_of_ble_eq_true rfl)
  rw [lg_entry_eq]
  generalize (lg_sl ([.ref (ax 0)]) ++ List.replicate (4 - (lg_sl ([.ref (ax 0)])).length) Slot.unset).toArray = ls at hl ⊢
  have hl : lv_has ls 4 [(0, .ref (ax 0))] := hl
  have B9 : ∀ (k9 : Nat) (x1 : Int32) (y_ord : Nat → Int64) (H : Heap) (locs : List Loc) (ls : Array Slot), q4_fillPairsOut_9 yn y_size Q k9 x1 y_ord → va_P (dC, dI) vwCl (wX4 cs ax at_ yn y_size y_ord) H → va_D A (wX4 cs ax at_ yn y_size y_ord) → va_S A s.heap H locs → lv_has ls 4 [(0, .ref (ax 0)), (1, .int x1)] → W p l e ({ frames := 1, cells := 0, slots := 0, locals := 21 } : Room) s m ([.ref (ax 0)] : List Value).toArray below meth c H locs 0 0 (MQ below (va_Qv (fun (u : (Nat → Int64)) => Q u) (Bw (dC, dI) (KA cs) A (fun u : (Nat → Int64) => (wX4 cs ax at_ yn y_size u))) A) ([.ref (ax 0)] : List Value).toArray s 0 0 A) (F0 m 9 ls []) := by
    intro k9
    induction k9 with
    | zero => intro x1 y_ord H locs ls hq; exact False.elim hq
    | succ k9 ih9 =>
      intro x1 y_ord H locs ls hq hP hD hS hl
      have B71 : ∀ (x1 : Int32) (y_ord : Nat → Int64) (H : Heap) (locs : List Loc) (ls : Array Slot), q4_fillPairsOut_71 yn y_size (fun v0 v1 => q4_fillPairsOut_9 yn y_size Q k9 v0 v1) Q x1 y_ord → va_P (dC, dI) vwCl (wX4 cs ax at_ yn y_size y_ord) H → va_D A (wX4 cs ax at_ yn y_size y_ord) → va_S A s.heap H locs → lv_has ls 4 [(0, .ref (ax 0)), (1, .int x1)] → W p l e ({ frames := 1, cells := 0, slots := 0, locals := 21 } : Room) s m ([.ref (ax 0)] : List Value).toArray below meth c H locs 0 0 (MQ below (va_Qv (fun (u : (Nat → Int64)) => Q u) (Bw (dC, dI) (KA cs) A (fun u : (Nat → Int64) => (wX4 cs ax at_ yn y_size u))) A) ([.ref (ax 0)] : List Value).toArray s 0 0 A) (F0 m 71 ls []) := by
        intro x1 y_ord H locs ls hq hP hD hS hl
        unfold q4_fillPairsOut_71 at hq
        refine lv_iinc (v := (x1 + (1 : Int32))) (lv' := [(1, .int (x1 + (1 : Int32))), (0, .ref (ax 0))]) hx hb dX4_fillPairsOut_71 hl (k := 1) rfl (by rfl) (by decide) rfl (fun ls hl => ?_)
        refine lv_goto (tgt := 9) hx hb dX4_fillPairsOut_74 (by decide) ?_
        exact ih9 (x1 + (1 : Int32)) y_ord _ _ _ hq hP hD hS (lv_sub hl [1, 0] rfl)
      have B25 : ∀ (k25 : Nat) (x1 : Int32) (x2 : Int32) (y_ord : Nat → Int64) (H : Heap) (locs : List Loc) (ls : Array Slot), q4_fillPairsOut_25 yn y_size (fun v0 v1 => q4_fillPairsOut_9 yn y_size Q k9 v0 v1) Q k25 x1 x2 y_ord → va_P (dC, dI) vwCl (wX4 cs ax at_ yn y_size y_ord) H → va_D A (wX4 cs ax at_ yn y_size y_ord) → va_S A s.heap H locs → lv_has ls 4 [(0, .ref (ax 0)), (1, .int x1), (2, .int x2)] → W p l e ({ frames := 1, cells := 0, slots := 0, locals := 21 } : Room) s m ([.ref (ax 0)] : List Value).toArray below meth c H locs 0 0 (MQ below (va_Qv (fun (u : (Nat → Int64)) => Q u) (Bw (dC, dI) (KA cs) A (fun u : (Nat → Int64) => (wX4 cs ax at_ yn y_size u))) A) ([.ref (ax 0)] : List Value).toArray s 0 0 A) (F0 m 25 ls []) := by
        intro k25
        induction k25 with
        | zero => intro x1 x2 y_ord H locs ls hq; exact False.elim hq
        | succ k25 ih25 =>
          intro x1 x2 y_ord H locs ls hq hP hD hS hl
          have B65 : ∀ (x1 : Int32) (x2 : Int32) (y_ord : Nat → Int64) (H : Heap) (locs : List Loc) (ls : Array Slot), q4_fillPairsOut_65 yn y_size (fun v0 v1 => q4_fillPairsOut_9 yn y_size Q k9 v0 v1) (fun v0 v1 v2 => q4_fillPairsOut_25 yn y_size (fun v0 v1 => q4_fillPairsOut_9 yn y_size Q k9 v0 v1) Q k25 v0 v1 v2) Q x1 x2 y_ord → va_P (dC, dI) vwCl (wX4 cs ax at_ yn y_size y_ord) H → va_D A (wX4 cs ax at_ yn y_size y_ord) → va_S A s.heap H locs → lv_has ls 4 [(0, .ref (ax 0)), (1, .int x1), (2, .int x2)] → W p l e ({ frames := 1, cells := 0, slots := 0, locals := 21 } : Room) s m ([.ref (ax 0)] : List Value).toArray below meth c H locs 0 0 (MQ below (va_Qv (fun (u : (Nat → Int64)) => Q u) (Bw (dC, dI) (KA cs) A (fun u : (Nat → Int64) => (wX4 cs ax at_ yn y_size u))) A) ([.ref (ax 0)] : List Value).toArray s 0 0 A) (F0 m 65 ls []) := by
            intro x1 x2 y_ord H locs ls hq hP hD hS hl
            unfold q4_fillPairsOut_65 at hq
            refine lv_iinc (v := (x2 + (-1 : Int32))) (lv' := [(2, .int (x2 + (-1 : Int32))), (0, .ref (ax 0)), (1, .int x1)]) hx hb dX4_fillPairsOut_65 hl (k := 2) rfl (by rfl) (by decide) rfl (fun ls hl => ?_)
            refine lv_goto (tgt := 25) hx hb dX4_fillPairsOut_68 (by decide) ?_
            exact ih25 x1 (x2 + (-1 : Int32)) y_ord _ _ _ hq hP hD hS (lv_sub hl [1, 2, 0] rfl)
          have B39 : ∀ (k39 : Nat) (x1 : Int32) (x2 : Int32) (x3 : Int32) (y_ord : Nat → Int64) (H : Heap) (locs : List Loc) (ls : Array Slot), q4_fillPairsOut_39 yn y_size (fun v0 v1 => q4_fillPairsOut_9 yn y_size Q k9 v0 v1) (fun v0 v1 v2 => q4_fillPairsOut_25 yn y_size (fun v0 v1 => q4_fillPairsOut_9 yn y_size Q k9 v0 v1) Q k25 v0 v1 v2) Q k39 x1 x2 x3 y_ord → va_P (dC, dI) vwCl (wX4 cs ax at_ yn y_size y_ord) H → va_D A (wX4 cs ax at_ yn y_size y_ord) → va_S A s.heap H locs → lv_has ls 4 [(0, .ref (ax 0)), (1, .int x1), (2, .int x2), (3, .int x3)] → W p l e ({ frames := 1, cells := 0, slots := 0, locals := 21 } : Room) s m ([.ref (ax 0)] : List Value).toArray below meth c H locs 0 0 (MQ below (va_Qv (fun (u : (Nat → Int64)) => Q u) (Bw (dC, dI) (KA cs) A (fun u : (Nat → Int64) => (wX4 cs ax at_ yn y_size u))) A) ([.ref (ax 0)] : List Value).toArray s 0 0 A) (F0 m 39 ls []) := by
            intro k39
            induction k39 with
            | zero => intro x1 x2 x3 y_ord H locs ls hq; exact False.elim hq
            | succ k39 ih39 =>
              intro x1 x2 x3 y_ord H locs ls hq hP hD hS hl
              unfold q4_fillPairsOut_39 at hq
              refine lv_iload_n hx hb dX4_fillPairsOut_39 rfl (lv_at hl 3 rfl) ?_
              refine lv_iload_n hx hb dX4_fillPairsOut_40 rfl (lv_at hl 2 rfl) ?_
              refine lv_icmp_ge (tgt := 65) hx hb dX4_fillPairsOut_41 (by decide) (fun c8 => ?_) (fun c8 => ?_)
              · have hq := hq.1 c8
                exact B65 x1 x2 y_ord _ _ _ hq hP hD hS (lv_sub hl [0, 1, 2] rfl)
              · have hq := hq.2 c8
                refine lv_aload_n hx hb dX4_fillPairsOut_44 rfl (lv_at hl 0 rfl) ?_
                refine va_get (D := (dC, dI)) (ci := 4) (v := .ref (ax 1)) (C := RX4) (T := TX4) (N := 3) hx hb hts uwX4 hown hK hP 0 rfl rfl 2 (by decide) (hts _ fl_X4_23) (fun _ h9 => h9) rfl dX4_fillPairsOut_45 ?_
                refine lv_iload_n hx hb dX4_fillPairsOut_48 rfl (lv_at hl 2 rfl) ?_
                refine lv_dup2_11 hx hb dX4_fillPairsOut_49 rfl rfl ?_
                obtain ⟨i9, hq⟩ := hq
                refine va_lald hx hb hK hP 1 1 rfl rfl i9 dX4_fillPairsOut_50 ?_
                refine lv_aload_n hx hb dX4_fillPairsOut_51 rfl (lv_at hl 0 rfl) ?_
                refine va_get (D := (dC, dI)) (ci := 4) (v := .ref (ax 1)) (C := RX4) (T := TX4) (N := 3) hx hb hts uwX4 hown hK hP 0 rfl rfl 2 (by decide) (hts _ fl_X4_23) (fun _ h9 => h9) rfl dX4_fillPairsOut_52 ?_
                refine lv_iload_n hx hb dX4_fillPairsOut_55 rfl (lv_at hl 3 rfl) ?_
                obtain ⟨i10, hq⟩ := hq
                refine va_lald hx hb hK hP 1 1 rfl rfl i10 dX4_fillPairsOut_56 ?_
                refine lv_ladd hx hb dX4_fillPairsOut_57 ?_
                obtain ⟨i11, hq⟩ := hq
                refine va_last hx hb hK hP hD hS 1 1 rfl rfl i11 dX4_fillPairsOut_58 (fun H locs hP hD hS => ?_)
                have hP : va_P (dC, dI) vwCl (wX4 cs ax at_ yn y_size (vp_updL y_ord x2.toNatClampNeg ((y_ord x2.toNatClampNeg) + (y_ord x3.toNatClampNeg)))) H := hP
                have hD : va_D A (wX4 cs ax at_ yn y_size (vp_updL y_ord x2.toNatClampNeg ((y_ord x2.toNatClampNeg) + (y_ord x3.toNatClampNeg)))) := hD
                refine lv_iinc (v := (x3 + (1 : Int32))) (lv' := [(3, .int (x3 + (1 : Int32))), (0, .ref (ax 0)), (1, .int x1), (2, .int x2)]) hx hb dX4_fillPairsOut_59 hl (k := 3) rfl (by rfl) (by decide) rfl (fun ls hl => ?_)
                refine lv_goto (tgt := 39) hx hb dX4_fillPairsOut_62 (by decide) ?_
                exact ih39 x1 x2 (x3 + (1 : Int32)) (vp_updL y_ord x2.toNatClampNeg ((y_ord x2.toNatClampNeg) + (y_ord x3.toNatClampNeg))) _ _ _ hq hP hD hS (lv_sub hl [1, 2, 3, 0] rfl)
          unfold q4_fillPairsOut_25 at hq
          refine lv_iload_n hx hb dX4_fillPairsOut_25 rfl (lv_at hl 2 rfl) ?_
          refine lv_if_le (tgt := 71) hx hb dX4_fillPairsOut_26 (by decide) (fun c12 => ?_) (fun c12 => ?_)
          · have hq := hq.1 c12
            exact B71 x1 y_ord _ _ _ hq hP hD hS (lv_sub hl [0, 1] rfl)
          · have hq := hq.2 c12
            refine lv_iconst (v := (0 : Int32)) hx hb dX4_fillPairsOut_29 (by decide) ?_
            refine lv_iload_n hx hb dX4_fillPairsOut_30 rfl (lv_at hl 2 rfl) ?_
            refine lv_iload_n hx hb dX4_fillPairsOut_31 rfl (lv_at hl 1 rfl) ?_
            refine lv_isub hx hb dX4_fillPairsOut_32 ?_
            refine lv_iconst (v := (1 : Int32)) hx hb dX4_fillPairsOut_33 (by decide) ?_
            refine lv_iadd hx hb dX4_fillPairsOut_34 ?_
            refine va_mmax hx hb (hml.trans hl.1.symm) hown (hts _ ml_X4_37) (hts _ sm_J9_max) (hts _ in_J9) (hts _ cw_J9_max) (Nat.le_of_ble_eq_true rfl) (Nat.le_of_ble_eq_true rfl) (Nat.le_of_ble_eq_true rfl) (Nat.le_of_ble_eq_true rfl) dX4_fillPairsOut_35 ?_
            refine lv_istore_n (lv' := [(3, .int (if (0 : Int32) < ((x2 - x1) + (1 : Int32)) then ((x2 - x1) + (1 : Int32)) else (0 : Int32))), (0, .ref (ax 0)), (1, .int x1), (2, .int x2)]) hx hb dX4_fillPairsOut_38 rfl hl (by decide) rfl (fun ls hl => ?_)
            obtain ⟨kf, hq⟩ := hq
            exact B39 kf x1 x2 (if (0 : Int32) < ((x2 - x1) + (1 : Int32)) then ((x2 - x1) + (1 : Int32)) else (0 : Int32)) y_ord _ _ _ hq hP hD hS (lv_sub hl [1, 2, 3, 0] rfl)
      unfold q4_fillPairsOut_9 at hq
      refine lv_iload_n hx hb dX4_fillPairsOut_9 rfl (lv_at hl 1 rfl) ?_
      refine lv_aload_n hx hb dX4_fillPairsOut_10 rfl (lv_at hl 0 rfl) ?_
      refine va_get (D := (dC, dI)) (ci := 4) (v := .int y_size) (C := RX4) (T := TX4) (N := 3) hx hb hts uwX4 hown hK hP 0 rfl rfl 0 (by decide) (hts _ fl_X4_9) (fun _ h9 => h9) rfl dX4_fillPairsOut_11 ?_
      refine lv_icmp_gt (tgt := 77) hx hb dX4_fillPairsOut_14 (by decide) (fun c13 => ?_) (fun c13 => ?_)
      · have hq := hq.1 c13
        exact W.vret hx hb hr (fun t ht hW => ⟨⟨y_ord, rfl, hq, Bw_mk (by rw [ht]; exact hP) (va_K.moved hW.alike hK) hD⟩, hS.F ht⟩) hS.2.2 dX4_fillPairsOut_77
      · have hq := hq.2 c13
        refine lv_aload_n hx hb dX4_fillPairsOut_17 rfl (lv_at hl 0 rfl) ?_
        refine va_get (D := (dC, dI)) (ci := 4) (v := .ref (ax 1)) (C := RX4) (T := TX4) (N := 3) hx hb hts uwX4 hown hK hP 0 rfl rfl 2 (by decide) (hts _ fl_X4_23) (fun _ h9 => h9) rfl dX4_fillPairsOut_18 ?_
        refine va_alen (v := (Int32.ofNat yn)) hx hb hK hP 1 1 rfl rfl rfl dX4_fillPairsOut_21 ?_
        refine lv_iconst (v := (1 : Int32)) hx hb dX4_fillPairsOut_22 (by decide) ?_
        refine lv_isub hx hb dX4_fillPairsOut_23 ?_
        refine lv_istore_n (lv' := [(2, .int ((Int32.ofNat yn) - (1 : Int32))), (0, .ref (ax 0)), (1, .int x1)]) hx hb dX4_fillPairsOut_24 rfl hl (by decide) rfl (fun ls hl => ?_)
        obtain ⟨kf, hq⟩ := hq
        exact B25 kf x1 ((Int32.ofNat yn) - (1 : Int32)) y_ord _ _ _ hq hP hD hS (lv_sub hl [1, 2, 0] rfl)
  unfold q4_fillPairsOut at hq
  refine lv_aload_n hx hb dX4_fillPairsOut_0 rfl (lv_at hl 0 rfl) ?_
  refine va_get (D := (dC, dI)) (ci := 4) (v := .ref (ax 1)) (C := RX4) (T := TX4) (N := 3) hx hb hts uwX4 hown hK hP 0 rfl rfl 2 (by decide) (hts _ fl_X4_23) (fun _ h9 => h9) rfl dX4_fillPairsOut_1 ?_
  refine lv_iconst (v := (0 : Int32)) hx hb dX4_fillPairsOut_4 (by decide) ?_
  refine lv_lconst (v := (1 : Int64)) hx hb dX4_fillPairsOut_5 (by decide) ?_
  obtain ⟨i14, hq⟩ := hq
  refine va_last hx hb hK hP hD hS 1 1 rfl rfl i14 dX4_fillPairsOut_6 (fun H locs hP hD hS => ?_)
  have hP : va_P (dC, dI) vwCl (wX4 cs ax at_ yn y_size (vp_updL y_ord (0 : Int32).toNatClampNeg (1 : Int64))) H := hP
  have hD : va_D A (wX4 cs ax at_ yn y_size (vp_updL y_ord (0 : Int32).toNatClampNeg (1 : Int64))) := hD
  refine lv_iconst (v := (2 : Int32)) hx hb dX4_fillPairsOut_7 (by decide) ?_
  refine lv_istore_n (lv' := [(1, .int (2 : Int32)), (0, .ref (ax 0))]) hx hb dX4_fillPairsOut_8 rfl hl (by decide) rfl (fun ls hl => ?_)
  obtain ⟨kf, hq⟩ := hq
  exact B9 kf (2 : Int32) (vp_updL y_ord (0 : Int32).toNatClampNeg (1 : Int64)) _ _ _ hq hP hD hS (lv_sub hl [1, 0] rfl)
set_option maxHeartbeats 4000000 in
set_option maxRecDepth 100000 in
theorem c4_addOrders (l : Launch) (dC : Nat → ClassId) (dI : Nat → Nat → Nat) (cs : Nat → ClassId) (ax : Nat → Nat) (at_ : Nat → Nat) (rr : Nat → Nat) (ru : Nat → Nat) (sz : Nat) (yn : Nat) (y_size : Int32) (y_ord : Nat → Int64) (t_fac : Nat → Int64) (t_der : Nat → Int64) (t_rec : Nat → Nat → Int64) (t_rut : Nat → Nat → Int64) (t_ris : Nat → Int64) (a1 : Int32) (a2 : Int64) {Q : (Nat → Int64) → Prop} (hq : q4_addOrders yn y_ord a1 a2 Q) : Met l yX4_addOrders (.code yX4_addOrders cX4_addOrders 4 none :: gt) ({ frames := 0, cells := 0, slots := 0, locals := 0 } : Room) (va_Pc [.ref (ax 0), .int a1, .long a2] (Pw2 (dC, dI) (KA cs) (wX4 cs ax at_ yn y_size y_ord) (wX3 cs at_ rr ru t_fac t_der t_rec t_rut t_ris) sz)) (va_Qv (fun (u : (Nat → Int64)) => Q u) (Bw (dC, dI) (KA cs) (va_A (wX4 cs ax at_ yn y_size y_ord) sz) (fun u : (Nat → Int64) => (wX4 cs ax at_ yn y_size u))) (va_A (wX4 cs ax at_ yn y_size y_ord) sz)) 0 0 (va_A (wX4 cs ax at_ yn y_size y_ord) sz) := by
  refine Met.ofW (cc := cX4_addOrders) (maxL := 4) (ret := none) (by decide) rfl ?_
  intro p e s m args below meth c s₁ B hml hv
  obtain ⟨rfl, hsz, hP0, hK, hD1, hN⟩ := hv
  have hP := va_P_l hP0
  have hO := va_P_r hP0
  have hD0 := va_D_l hD1
  have hDO := va_D_r hD1
  have hx := B.exec
  have hb := B.bytes
  have hr := B.returns
  have hts0 := atoms_spec (ws := (.code yX4_addOrders cX4_addOrders 4 none :: gt)) B.pre
  have hts : ∀ w ∈ gt, w.before _ s = true := fun w h => hts0 w (List.mem_cons_of_mem _ h)
  have hown : s.vm.findClass RX4 = some m.cls := findClass_of_methodNamed B.named
  have hlocks := B.notSynchronized
  subst hsz
  have hD := hD0.self (sz := s.heap.size)
  have hNA := na_of hP0 hD1
  generalize hAe : va_A (wX4 cs ax at_ yn y_size y_ord) s.heap.size = A at hD hNA ⊢
  have hA : ∀ q : Nat, s.heap.size ≤ q → A q := fun q h => by rw [← hAe]; exact Or.inr h
  have hS : va_S A s.heap s.heap [] := va_S.rf
  have hl := lv_entry ([.ref (ax 0), .int a1, .long a2]) (n := 4) (Nat.le_of_ble_eq_true rfl)
  rw [lg_entry_eq]
  generalize (lg_sl ([.ref (ax 0), .int a1, .long a2]) ++ List.replicate (4 - (lg_sl ([.ref (ax 0), .int a1, .long a2])).length) Slot.unset).toArray = ls at hl ⊢
  have hl : lv_has ls 4 [(0, .ref (ax 0)), (1, .int a1), (2, .long a2)] := hl
  unfold q4_addOrders at hq
  refine lv_iload_n hx hb dX4_addOrders_0 rfl (lv_at hl 1 rfl) ?_
  refine lv_if_lt (tgt := 23) hx hb dX4_addOrders_1 (by decide) (fun c5 => ?_) (fun c5 => ?_)
  · have hq := hq.1 c5
    exact W.vret hx hb hr (fun t ht hW => ⟨⟨y_ord, rfl, hq, Bw_mk (by rw [ht]; exact hP) (va_K.moved hW.alike hK) hD⟩, hS.F ht⟩) hS.2.2 dX4_addOrders_23
  · have hq := hq.2 c5
    refine lv_iload_n hx hb dX4_addOrders_4 rfl (lv_at hl 1 rfl) ?_
    refine lv_aload_n hx hb dX4_addOrders_5 rfl (lv_at hl 0 rfl) ?_
    refine va_get (D := (dC, dI)) (ci := 4) (v := .ref (ax 1)) (C := RX4) (T := TX4) (N := 3) hx hb hts uwX4 hown hK hP 0 rfl rfl 2 (by decide) (hts _ fl_X4_23) (fun _ h9 => h9) rfl dX4_addOrders_6 ?_
    refine va_alen (v := (Int32.ofNat yn)) hx hb hK hP 1 1 rfl rfl rfl dX4_addOrders_9 ?_
    refine lv_icmp_ge (tgt := 23) hx hb dX4_addOrders_10 (by decide) (fun c6 => ?_) (fun c6 => ?_)
    · have hq := hq.1 c6
      exact W.vret hx hb hr (fun t ht hW => ⟨⟨y_ord, rfl, hq, Bw_mk (by rw [ht]; exact hP) (va_K.moved hW.alike hK) hD⟩, hS.F ht⟩) hS.2.2 dX4_addOrders_23
    · have hq := hq.2 c6
      refine lv_aload_n hx hb dX4_addOrders_13 rfl (lv_at hl 0 rfl) ?_
      refine va_get (D := (dC, dI)) (ci := 4) (v := .ref (ax 1)) (C := RX4) (T := TX4) (N := 3) hx hb hts uwX4 hown hK hP 0 rfl rfl 2 (by decide) (hts _ fl_X4_23) (fun _ h9 => h9) rfl dX4_addOrders_14 ?_
      refine lv_iload_n hx hb dX4_addOrders_17 rfl (lv_at hl 1 rfl) ?_
      refine lv_dup2_11 hx hb dX4_addOrders_18 rfl rfl ?_
      obtain ⟨i7, hq⟩ := hq
      refine va_lald hx hb hK hP 1 1 rfl rfl i7 dX4_addOrders_19 ?_
      refine lv_lload_n hx hb dX4_addOrders_20 rfl (lv_at hl 2 rfl) ?_
      refine lv_ladd hx hb dX4_addOrders_21 ?_
      obtain ⟨i8, hq⟩ := hq
      refine va_last hx hb hK hP hD hS 1 1 rfl rfl i8 dX4_addOrders_22 (fun H locs hP hD hS => ?_)
      have hP : va_P (dC, dI) vwCl (wX4 cs ax at_ yn y_size (vp_updL y_ord a1.toNatClampNeg ((y_ord a1.toNatClampNeg) + a2))) H := hP
      have hD : va_D A (wX4 cs ax at_ yn y_size (vp_updL y_ord a1.toNatClampNeg ((y_ord a1.toNatClampNeg) + a2))) := hD
      exact W.vret hx hb hr (fun t ht hW => ⟨⟨(vp_updL y_ord a1.toNatClampNeg ((y_ord a1.toNatClampNeg) + a2)), rfl, hq, Bw_mk (by rw [ht]; exact hP) (va_K.moved hW.alike hK) hD⟩, hS.F ht⟩) hS.2.2 dX4_addOrders_23
set_option maxHeartbeats 4000000 in
set_option maxRecDepth 100000 in
theorem c4_ordersWith (l : Launch) (dC : Nat → ClassId) (dI : Nat → Nat → Nat) (cs : Nat → ClassId) (ax : Nat → Nat) (at_ : Nat → Nat) (rr : Nat → Nat) (ru : Nat → Nat) (yn : Nat) (y_size : Int32) (y_ord : Nat → Int64) (t_fac : Nat → Int64) (t_der : Nat → Int64) (t_rec : Nat → Nat → Int64) (t_rut : Nat → Nat → Int64) (t_ris : Nat → Int64) (a1 : Int32) {Q : Int64 → Prop} (hq : q4_ordersWith yn y_ord a1 Q) : Met l yX4_ordersWith (.code yX4_ordersWith cX4_ordersWith 2 (some .long) :: gt) ({ frames := 1, cells := 0, slots := 0, locals := 21 } : Room) (va_Pc [.ref (ax 0), .int a1] (Pr (dC, dI) (KA cs) ((wX4 cs ax at_ yn y_size y_ord) ++ (wX3 cs at_ rr ru t_fac t_der t_rec t_rut t_ris)))) (vp_Sl Q) 0 0 (fun _ => False) := by
  refine Met.ofW (cc := cX4_ordersWith) (maxL := 2) (ret := (some .long)) (by decide) rfl ?_
  intro p e s m args below meth c s₁ B hml hv
  obtain ⟨rfl, hP0, hK, hN⟩ := hv
  have hP := va_P_l hP0
  have hO := va_P_r hP0
  have hx := B.exec
  have hb := B.bytes
  have hr := B.returns
  have hts0 := atoms_spec (ws := (.code yX4_ordersWith cX4_ordersWith 2 (some .long) :: gt)) B.pre
  have hts : ∀ w ∈ gt, w.before _ s = true := fun w h => hts0 w (List.mem_cons_of_mem _ h)
  have hown : s.vm.findClass RX4 = some m.cls := findClass_of_methodNamed B.named
  have hlocks := B.notSynchronized
  have hl := lv_entry ([.ref (ax 0), .int a1]) (n := 2) (Nat.le_of_ble_eq_true rfl)
  rw [lg_entry_eq]
  generalize (lg_sl ([.ref (ax 0), .int a1]) ++ List.replicate (2 - (lg_sl ([.ref (ax 0), .int a1])).length) Slot.unset).toArray = ls at hl ⊢
  have hl : lv_has ls 2 [(0, .ref (ax 0)), (1, .int a1)] := hl
  unfold q4_ordersWith at hq
  refine lv_aload_n hx hb dX4_ordersWith_0 rfl (lv_at hl 0 rfl) ?_
  refine va_get (D := (dC, dI)) (ci := 4) (v := .ref (ax 1)) (C := RX4) (T := TX4) (N := 3) hx hb hts uwX4 hown hK hP 0 rfl rfl 2 (by decide) (hts _ fl_X4_23) (fun _ h9 => h9) rfl dX4_ordersWith_1 ?_
  refine lv_iload_n hx hb dX4_ordersWith_4 rfl (lv_at hl 1 rfl) ?_
  refine rol (runSN ⟨hx, hb, hml, hown, hts⟩ ws_X6_entry (by decide +kernel) (c6_entry l dC dI cs (ax 1) yn y_ord a1 hq) ⟨⟨rfl, rfl⟩, by decide, by decide⟩ (preR (hP.sub (ws' := wE cs (ax 1) yn y_ord) [1] rfl) hK hN) hN rfl hl.1 rfl (Nat.le_of_ble_eq_true rfl) dX4_ordersWith_5 ⟨(Nat.le_of_ble_eq_true rfl), (Nat.le_of_ble_eq_true rfl)⟩) (fun r2 hq => ?_)
  exact W.lret (v := r2) hx hb hr (fun t ht hW => ⟨r2, rfl, hq, ht⟩) (fun q h => absurd h List.not_mem_nil) dX4_ordersWith_8
set_option maxHeartbeats 4000000 in
set_option maxRecDepth 100000 in
theorem c4_sumOfNumbers (l : Launch) (dC : Nat → ClassId) (dI : Nat → Nat → Nat) (cs : Nat → ClassId) (ax : Nat → Nat) (at_ : Nat → Nat) (rr : Nat → Nat) (ru : Nat → Nat) (yn : Nat) (y_size : Int32) (y_ord : Nat → Int64) (t_fac : Nat → Int64) (t_der : Nat → Int64) (t_rec : Nat → Nat → Int64) (t_rut : Nat → Nat → Int64) (t_ris : Nat → Int64) {Q : Int64 → Prop} (hq : q4_sumOfNumbers yn y_ord Q) : Met l yX4_sumOfNumbers (.code yX4_sumOfNumbers cX4_sumOfNumbers 4 (some .long) :: gt) ({ frames := 0, cells := 0, slots := 0, locals := 0 } : Room) (va_Pc [.ref (ax 0)] (Pr (dC, dI) (KA cs) ((wX4 cs ax at_ yn y_size y_ord) ++ (wX3 cs at_ rr ru t_fac t_der t_rec t_rut t_ris)))) (vp_Sl Q) 0 0 (fun _ => False) := by
  refine Met.ofW (cc := cX4_sumOfNumbers) (maxL := 4) (ret := (some .long)) (by decide) rfl ?_
  intro p e s m args below meth c s₁ B hml hv
  obtain ⟨rfl, hP0, hK, hN⟩ := hv
  have hP := va_P_l hP0
  have hO := va_P_r hP0
  have hx := B.exec
  have hb := B.bytes
  have hr := B.returns
  have hts0 := atoms_spec (ws := (.code yX4_sumOfNumbers cX4_sumOfNumbers 4 (some .long) :: gt)) B.pre
  have hts : ∀ w ∈ gt, w.before _ s = true := fun w h => hts0 w (List.mem_cons_of_mem _ h)
  have hown : s.vm.findClass RX4 = some m.cls := findClass_of_methodNamed B.named
  have hlocks := B.notSynchronized
  have hl := lv_entry ([.ref (ax 0)]) (n := 4) (Nat.le_of_ble_eq_true rfl)
  rw [lg_entry_eq]
  generalize (lg_sl ([.ref (ax 0)]) ++ List.replicate (4 - (lg_sl ([.ref (ax 0)])).length) Slot.unset).toArray = ls at hl ⊢
  have hl : lv_has ls 4 [(0, .ref (ax 0))] := hl
  have B4 : ∀ (k4 : Nat) (x1 : Int64) (x3 : Int32) (ls : Array Slot), q4_sumOfNumbers_4 yn y_ord Q k4 x1 x3 → lv_has ls 4 [(0, .ref (ax 0)), (1, .long x1), (3, .int x3)] → W p l e ({ frames := 0, cells := 0, slots := 0, locals := 0 } : Room) s m ([.ref (ax 0)] : List Value).toArray below meth c s.heap [] 0 0 (MQ below (vp_Sl Q) ([.ref (ax 0)] : List Value).toArray s 0 0 (fun _ => False)) (F0 m 4 ls []) := by
    intro k4
    induction k4 with
    | zero => intro x1 x3 ls hq; exact False.elim hq
    | succ k4 ih4 =>
      intro x1 x3 ls hq hl
      unfold q4_sumOfNumbers_4 at hq
      refine lv_iload_n hx hb dX4_sumOfNumbers_4 rfl (lv_at hl 2 rfl) ?_
      refine lv_aload_n hx hb dX4_sumOfNumbers_5 rfl (lv_at hl 0 rfl) ?_
      refine va_get (D := (dC, dI)) (ci := 4) (v := .ref (ax 1)) (C := RX4) (T := TX4) (N := 3) hx hb hts uwX4 hown hK hP 0 rfl rfl 2 (by decide) (hts _ fl_X4_23) (fun _ h9 => h9) rfl dX4_sumOfNumbers_6 ?_
      refine va_alen (v := (Int32.ofNat yn)) hx hb hK hP 1 1 rfl rfl rfl dX4_sumOfNumbers_9 ?_
      refine lv_icmp_ge (tgt := 31) hx hb dX4_sumOfNumbers_10 (by decide) (fun c3 => ?_) (fun c3 => ?_)
      · have hq := hq.1 c3
        refine lv_lload_n hx hb dX4_sumOfNumbers_31 rfl (lv_at hl 1 rfl) ?_
        exact W.lret (v := x1) hx hb hr (fun t ht hW => ⟨x1, rfl, hq, ht⟩) (fun q h => absurd h List.not_mem_nil) dX4_sumOfNumbers_32
      · have hq := hq.2 c3
        refine lv_lload_n hx hb dX4_sumOfNumbers_13 rfl (lv_at hl 1 rfl) ?_
        refine lv_iload_n hx hb dX4_sumOfNumbers_14 rfl (lv_at hl 2 rfl) ?_
        refine lv_i2l (v := x3.toInt64) hx hb dX4_sumOfNumbers_15 rfl ?_
        refine lv_aload_n hx hb dX4_sumOfNumbers_16 rfl (lv_at hl 0 rfl) ?_
        refine va_get (D := (dC, dI)) (ci := 4) (v := .ref (ax 1)) (C := RX4) (T := TX4) (N := 3) hx hb hts uwX4 hown hK hP 0 rfl rfl 2 (by decide) (hts _ fl_X4_23) (fun _ h9 => h9) rfl dX4_sumOfNumbers_17 ?_
        refine lv_iload_n hx hb dX4_sumOfNumbers_20 rfl (lv_at hl 2 rfl) ?_
        obtain ⟨i4, hq⟩ := hq
        refine va_lald hx hb hK hP 1 1 rfl rfl i4 dX4_sumOfNumbers_21 ?_
        refine lv_lmul hx hb dX4_sumOfNumbers_22 ?_
        refine lv_ladd hx hb dX4_sumOfNumbers_23 ?_
        refine lv_lstore_n (lv' := [(1, .long (x1 + (x3.toInt64 * (y_ord x3.toNatClampNeg)))), (0, .ref (ax 0)), (3, .int x3)]) hx hb dX4_sumOfNumbers_24 rfl hl (by decide) rfl (fun ls hl => ?_)
        refine lv_iinc (v := (x3 + (1 : Int32))) (lv' := [(3, .int (x3 + (1 : Int32))), (1, .long (x1 + (x3.toInt64 * (y_ord x3.toNatClampNeg)))), (0, .ref (ax 0))]) hx hb dX4_sumOfNumbers_25 hl (k := 2) rfl (by rfl) (by decide) rfl (fun ls hl => ?_)
        refine lv_goto (tgt := 4) hx hb dX4_sumOfNumbers_28 (by decide) ?_
        exact ih4 (x1 + (x3.toInt64 * (y_ord x3.toNatClampNeg))) (x3 + (1 : Int32)) _ hq (lv_sub hl [2, 1, 0] rfl)
  unfold q4_sumOfNumbers at hq
  refine lv_lconst (v := (0 : Int64)) hx hb dX4_sumOfNumbers_0 (by decide) ?_
  refine lv_lstore_n (lv' := [(1, .long (0 : Int64)), (0, .ref (ax 0))]) hx hb dX4_sumOfNumbers_1 rfl hl (by decide) rfl (fun ls hl => ?_)
  refine lv_iconst (v := (0 : Int32)) hx hb dX4_sumOfNumbers_2 (by decide) ?_
  refine lv_istore_n (lv' := [(3, .int (0 : Int32)), (1, .long (0 : Int64)), (0, .ref (ax 0))]) hx hb dX4_sumOfNumbers_3 rfl hl (by decide) rfl (fun ls hl => ?_)
  obtain ⟨kf, hq⟩ := hq
  exact B4 kf (0 : Int64) (0 : Int32) _ hq (lv_sub hl [2, 1, 0] rfl)
set_option maxHeartbeats 4000000 in
set_option maxRecDepth 100000 in
theorem c5_start (l : Launch) (dC : Nat → ClassId) (dI : Nat → Nat → Nat) (cs : Nat → ClassId) (aw : Nat → Nat) (at_ : Nat → Nat) (rr : Nat → Nat) (ru : Nat → Nat) (sz : Nat) (w_used : Nat → Int32) (w_kind : Int32) (w_size : Int32) (w_left : Int32) (w_last : Int32) (w_top : Int32) (w_wanted : Int32) (t_fac : Nat → Int64) (t_der : Nat → Int64) (t_rec : Nat → Nat → Int64) (t_rut : Nat → Nat → Int64) (t_ris : Nat → Int64) (a1 : Int32) (a2 : Int32) (a3 : Int32) {Q : (Nat → Int32) → Int32 → Int32 → Int32 → Int32 → Int32 → Int32 → Prop} (hq : q5_start w_used w_kind w_size w_left w_last w_top w_wanted a1 a2 a3 Q) : Met l yX5_start (.code yX5_start cX5_start 5 none :: gt) ({ frames := 1, cells := 0, slots := 0, locals := 21 } : Room) (va_Pc [.ref (aw 0), .int a1, .int a2, .int a3] (Pw2 (dC, dI) (KA cs) (wX5 cs aw at_ w_used w_kind w_size w_left w_last w_top w_wanted) (wX3 cs at_ rr ru t_fac t_der t_rec t_rut t_ris) sz)) (va_Qv (fun (u : (Nat → Int32) × Int32 × Int32 × Int32 × Int32 × Int32 × Int32) => Q u.1 u.2.1 u.2.2.1 u.2.2.2.1 u.2.2.2.2.1 u.2.2.2.2.2.1 u.2.2.2.2.2.2) (Bw (dC, dI) (KA cs) (va_A (wX5 cs aw at_ w_used w_kind w_size w_left w_last w_top w_wanted) sz) (fun u : (Nat → Int32) × Int32 × Int32 × Int32 × Int32 × Int32 × Int32 => (wX5 cs aw at_ u.1 u.2.1 u.2.2.1 u.2.2.2.1 u.2.2.2.2.1 u.2.2.2.2.2.1 u.2.2.2.2.2.2))) (va_A (wX5 cs aw at_ w_used w_kind w_size w_left w_last w_top w_wanted) sz)) 0 0 (va_A (wX5 cs aw at_ w_used w_kind w_size w_left w_last w_top w_wanted) sz) := by
  refine Met.ofW (cc := cX5_start) (maxL := 5) (ret := none) (by decide) rfl ?_
  intro p e s m args below meth c s₁ B hml hv
  obtain ⟨rfl, hsz, hP0, hK, hD1, hN⟩ := hv
  have hP := va_P_l hP0
  have hO := va_P_r hP0
  have hD0 := va_D_l hD1
  have hDO := va_D_r hD1
  have hx := B.exec
  have hb := B.bytes
  have hr := B.returns
  have hts0 := atoms_spec (ws := (.code yX5_start cX5_start 5 none :: gt)) B.pre
  have hts : ∀ w ∈ gt, w.before _ s = true := fun w h => hts0 w (List.mem_cons_of_mem _ h)
  have hown : s.vm.findClass RX5 = some m.cls := findClass_of_methodNamed B.named
  have hlocks := B.notSynchronized
  subst hsz
  have hD := hD0.self (sz := s.heap.size)
  have hNA := na_of hP0 hD1
  generalize hAe : va_A (wX5 cs aw at_ w_used w_kind w_size w_left w_last w_top w_wanted) s.heap.size = A at hD hNA ⊢
  have hA : ∀ q : Nat, s.heap.size ≤ q → A q := fun q h => by rw [← hAe]; exact Or.inr h
  have hS : va_S A s.heap s.heap [] := va_S.rf
  have hl := lv_entry ([.ref (aw 0), .int a1, .int a2, .int a3]) (n := 5) (Nat.le_of_ble_eq_true rfl)
  rw [lg_entry_eq]
  generalize (lg_sl ([.ref (aw 0), .int a1, .int a2, .int a3]) ++ List.replicate (5 - (lg_sl ([.ref (aw 0), .int a1, .int a2, .int a3])).length) Slot.unset).toArray = ls at hl ⊢
  have hl : lv_has ls 5 [(0, .ref (aw 0)), (1, .int a1), (2, .int a2), (3, .int a3)] := hl
  have B44 : ∀ (k44 : Nat) (x4 : Int32) (w_used : Nat → Int32) (w_kind : Int32) (w_size : Int32) (w_left : Int32) (w_last : Int32) (w_top : Int32) (w_wanted : Int32) (H : Heap) (locs : List Loc) (ls : Array Slot), q5_start_44 Q k44 x4 w_used w_kind w_size w_left w_last w_top w_wanted → va_P (dC, dI) vwCl (wX5 cs aw at_ w_used w_kind w_size w_left w_last w_top w_wanted) H → va_D A (wX5 cs aw at_ w_used w_kind w_size w_left w_last w_top w_wanted) → va_S A s.heap H locs → lv_has ls 5 [(0, .ref (aw 0)), (4, .int x4)] → W p l e ({ frames := 1, cells := 0, slots := 0, locals := 21 } : Room) s m ([.ref (aw 0), .int a1, .int a2, .int a3] : List Value).toArray below meth c H locs 0 0 (MQ below (va_Qv (fun (u : (Nat → Int32) × Int32 × Int32 × Int32 × Int32 × Int32 × Int32) => Q u.1 u.2.1 u.2.2.1 u.2.2.2.1 u.2.2.2.2.1 u.2.2.2.2.2.1 u.2.2.2.2.2.2) (Bw (dC, dI) (KA cs) A (fun u : (Nat → Int32) × Int32 × Int32 × Int32 × Int32 × Int32 × Int32 => (wX5 cs aw at_ u.1 u.2.1 u.2.2.1 u.2.2.2.1 u.2.2.2.2.1 u.2.2.2.2.2.1 u.2.2.2.2.2.2))) A) ([.ref (aw 0), .int a1, .int a2, .int a3] : List Value).toArray s 0 0 A) (F0 m 44 ls []) := by
    intro k44
    induction k44 with
    | zero => intro x4 w_used w_kind w_size w_left w_last w_top w_wanted H locs ls hq; exact False.elim hq
    | succ k44 ih44 =>
      intro x4 w_used w_kind w_size w_left w_last w_top w_wanted H locs ls hq hP hD hS hl
      unfold q5_start_44 at hq
      refine lv_iload hx hb dX5_start_44 (lv_at hl 1 rfl) ?_
      refine lv_bipush (v := (18 : Int32)) hx hb dX5_start_46 (by decide) ?_
      refine lv_icmp_ge (tgt := 65) hx hb dX5_start_48 (by decide) (fun c3 => ?_) (fun c3 => ?_)
      · have hq := hq.1 c3
        exact W.vret hx hb hr (fun t ht hW => ⟨⟨(w_used, w_kind, w_size, w_left, w_last, w_top, w_wanted), rfl, hq, Bw_mk (by rw [ht]; exact hP) (va_K.moved hW.alike hK) hD⟩, hS.F ht⟩) hS.2.2 dX5_start_65
      · have hq := hq.2 c3
        refine lv_aload_n hx hb dX5_start_51 rfl (lv_at hl 0 rfl) ?_
        refine va_get (D := (dC, dI)) (ci := 5) (v := .ref (aw 1)) (C := RX5) (T := TX5) (N := 8) hx hb hts uwX5 hown hK hP 0 rfl rfl 1 (by decide) (hts _ fl_X5_9) (fun _ h9 => h9) rfl dX5_start_52 ?_
        refine lv_iload hx hb dX5_start_55 (lv_at hl 1 rfl) ?_
        refine lv_iconst (v := (0 : Int32)) hx hb dX5_start_57 (by decide) ?_
        obtain ⟨i4, hq⟩ := hq
        refine va_zast hx hb hK hP hD hS 1 2 rfl rfl i4 dX5_start_58 (fun H locs hP hD hS => ?_)
        have hP : va_P (dC, dI) vwCl (wX5 cs aw at_ (upd w_used x4.toNatClampNeg (0 : Int32)) w_kind w_size w_left w_last w_top w_wanted) H := hP
        have hD : va_D A (wX5 cs aw at_ (upd w_used x4.toNatClampNeg (0 : Int32)) w_kind w_size w_left w_last w_top w_wanted) := hD
        refine lv_iinc (v := (x4 + (1 : Int32))) (lv' := [(4, .int (x4 + (1 : Int32))), (0, .ref (aw 0))]) hx hb dX5_start_59 hl (k := 1) rfl (by rfl) (by decide) rfl (fun ls hl => ?_)
        refine lv_goto (tgt := 44) hx hb dX5_start_62 (by decide) ?_
        exact ih44 (x4 + (1 : Int32)) (upd w_used x4.toNatClampNeg (0 : Int32)) w_kind w_size w_left w_last w_top w_wanted _ _ _ hq hP hD hS (lv_sub hl [1, 0] rfl)
  unfold q5_start at hq
  refine lv_aload_n hx hb dX5_start_0 rfl (lv_at hl 0 rfl) ?_
  refine lv_iload_n hx hb dX5_start_1 rfl (lv_at hl 1 rfl) ?_
  refine va_put (D := (dC, dI)) (ci := 5) (v := .int a1) (ty := .int) (C := RX5) (T := TX5) (N := 8) hx hb hts uwX5 tyX5 tyX5_ok nmX5 hown hK hP hD hS 0 rfl rfl 2 (by decide) (hts _ fl_X5_19) (fun _ h9 => h9) rfl (by decide +kernel) rfl rfl (Nat.le_of_ble_eq_true rfl) dX5_start_2 (fun H locs hP hD hS => ?_)
  have hP : va_P (dC, dI) vwCl (wX5 cs aw at_ w_used a1 w_size w_left w_last w_top w_wanted) H := hP
  have hD : va_D A (wX5 cs aw at_ w_used a1 w_size w_left w_last w_top w_wanted) := hD
  refine lv_aload_n hx hb dX5_start_5 rfl (lv_at hl 0 rfl) ?_
  refine lv_iload_n hx hb dX5_start_6 rfl (lv_at hl 2 rfl) ?_
  refine lv_bipush (v := (18 : Int32)) hx hb dX5_start_7 (by decide) ?_
  refine va_mmin hx hb (hml.trans hl.1.symm) hown (hts _ ml_X5_23) (hts _ sm_J9_min) (hts _ in_J9) (hts _ cw_J9_min) (Nat.le_of_ble_eq_true rfl) (Nat.le_of_ble_eq_true rfl) (Nat.le_of_ble_eq_true rfl) (Nat.le_of_ble_eq_true rfl) dX5_start_9 ?_
  refine va_put (D := (dC, dI)) (ci := 5) (v := .int (if (18 : Int32) < a2 then (18 : Int32) else a2)) (ty := .int) (C := RX5) (T := TX5) (N := 8) hx hb hts uwX5 tyX5 tyX5_ok nmX5 hown hK hP hD hS 0 rfl rfl 3 (by decide) (hts _ fl_X5_29) (fun _ h9 => h9) rfl (by decide +kernel) rfl rfl (Nat.le_of_ble_eq_true rfl) dX5_start_12 (fun H locs hP hD hS => ?_)
  have hP : va_P (dC, dI) vwCl (wX5 cs aw at_ w_used a1 (if (18 : Int32) < a2 then (18 : Int32) else a2) w_left w_last w_top w_wanted) H := hP
  have hD : va_D A (wX5 cs aw at_ w_used a1 (if (18 : Int32) < a2 then (18 : Int32) else a2) w_left w_last w_top w_wanted) := hD
  refine lv_aload_n hx hb dX5_start_15 rfl (lv_at hl 0 rfl) ?_
  refine lv_iload_n hx hb dX5_start_16 rfl (lv_at hl 3 rfl) ?_
  refine va_put (D := (dC, dI)) (ci := 5) (v := .int a3) (ty := .int) (C := RX5) (T := TX5) (N := 8) hx hb hts uwX5 tyX5 tyX5_ok nmX5 hown hK hP hD hS 0 rfl rfl 7 (by decide) (hts _ fl_X5_32) (fun _ h9 => h9) rfl (by decide +kernel) rfl rfl (Nat.le_of_ble_eq_true rfl) dX5_start_17 (fun H locs hP hD hS => ?_)
  have hP : va_P (dC, dI) vwCl (wX5 cs aw at_ w_used a1 (if (18 : Int32) < a2 then (18 : Int32) else a2) w_left w_last w_top a3) H := hP
  have hD : va_D A (wX5 cs aw at_ w_used a1 (if (18 : Int32) < a2 then (18 : Int32) else a2) w_left w_last w_top a3) := hD
  refine lv_aload_n hx hb dX5_start_20 rfl (lv_at hl 0 rfl) ?_
  refine lv_aload_n hx hb dX5_start_21 rfl (lv_at hl 0 rfl) ?_
  refine va_get (D := (dC, dI)) (ci := 5) (v := .int (if (18 : Int32) < a2 then (18 : Int32) else a2)) (C := RX5) (T := TX5) (N := 8) hx hb hts uwX5 hown hK hP 0 rfl rfl 3 (by decide) (hts _ fl_X5_29) (fun _ h9 => h9) rfl dX5_start_22 ?_
  refine va_put (D := (dC, dI)) (ci := 5) (v := .int (if (18 : Int32) < a2 then (18 : Int32) else a2)) (ty := .int) (C := RX5) (T := TX5) (N := 8) hx hb hts uwX5 tyX5 tyX5_ok nmX5 hown hK hP hD hS 0 rfl rfl 4 (by decide) (hts _ fl_X5_35) (fun _ h9 => h9) rfl (by decide +kernel) rfl rfl (Nat.le_of_ble_eq_true rfl) dX5_start_25 (fun H locs hP hD hS => ?_)
  have hP : va_P (dC, dI) vwCl (wX5 cs aw at_ w_used a1 (if (18 : Int32) < a2 then (18 : Int32) else a2) (if (18 : Int32) < a2 then (18 : Int32) else a2) w_last w_top a3) H := hP
  have hD : va_D A (wX5 cs aw at_ w_used a1 (if (18 : Int32) < a2 then (18 : Int32) else a2) (if (18 : Int32) < a2 then (18 : Int32) else a2) w_last w_top a3) := hD
  refine lv_aload_n hx hb dX5_start_28 rfl (lv_at hl 0 rfl) ?_
  refine lv_aload_n hx hb dX5_start_29 rfl (lv_at hl 0 rfl) ?_
  refine va_get (D := (dC, dI)) (ci := 5) (v := .int (if (18 : Int32) < a2 then (18 : Int32) else a2)) (C := RX5) (T := TX5) (N := 8) hx hb hts uwX5 hown hK hP 0 rfl rfl 3 (by decide) (hts _ fl_X5_29) (fun _ h9 => h9) rfl dX5_start_30 ?_
  refine va_put (D := (dC, dI)) (ci := 5) (v := .int (if (18 : Int32) < a2 then (18 : Int32) else a2)) (ty := .int) (C := RX5) (T := TX5) (N := 8) hx hb hts uwX5 tyX5 tyX5_ok nmX5 hown hK hP hD hS 0 rfl rfl 5 (by decide) (hts _ fl_X5_38) (fun _ h9 => h9) rfl (by decide +kernel) rfl rfl (Nat.le_of_ble_eq_true rfl) dX5_start_33 (fun H locs hP hD hS => ?_)
  have hP : va_P (dC, dI) vwCl (wX5 cs aw at_ w_used a1 (if (18 : Int32) < a2 then (18 : Int32) else a2) (if (18 : Int32) < a2 then (18 : Int32) else a2) (if (18 : Int32) < a2 then (18 : Int32) else a2) w_top a3) H := hP
  have hD : va_D A (wX5 cs aw at_ w_used a1 (if (18 : Int32) < a2 then (18 : Int32) else a2) (if (18 : Int32) < a2 then (18 : Int32) else a2) (if (18 : Int32) < a2 then (18 : Int32) else a2) w_top a3) := hD
  refine lv_aload_n hx hb dX5_start_36 rfl (lv_at hl 0 rfl) ?_
  refine lv_iconst (v := (-1 : Int32)) hx hb dX5_start_37 (by decide) ?_
  refine va_put (D := (dC, dI)) (ci := 5) (v := .int (-1 : Int32)) (ty := .int) (C := RX5) (T := TX5) (N := 8) hx hb hts uwX5 tyX5 tyX5_ok nmX5 hown hK hP hD hS 0 rfl rfl 6 (by decide) (hts _ fl_X5_41) (fun _ h9 => h9) rfl (by decide +kernel) rfl rfl (Nat.le_of_ble_eq_true rfl) dX5_start_38 (fun H locs hP hD hS => ?_)
  have hP : va_P (dC, dI) vwCl (wX5 cs aw at_ w_used a1 (if (18 : Int32) < a2 then (18 : Int32) else a2) (if (18 : Int32) < a2 then (18 : Int32) else a2) (if (18 : Int32) < a2 then (18 : Int32) else a2) (-1 : Int32) a3) H := hP
  have hD : va_D A (wX5 cs aw at_ w_used a1 (if (18 : Int32) < a2 then (18 : Int32) else a2) (if (18 : Int32) < a2 then (18 : Int32) else a2) (if (18 : Int32) < a2 then (18 : Int32) else a2) (-1 : Int32) a3) := hD
  refine lv_iconst (v := (0 : Int32)) hx hb dX5_start_41 (by decide) ?_
  refine lv_istore (lv' := [(4, .int (0 : Int32)), (0, .ref (aw 0)), (1, .int a1), (2, .int a2), (3, .int a3)]) hx hb dX5_start_42 hl (by decide) rfl (fun ls hl => ?_)
  obtain ⟨kf, hq⟩ := hq
  exact B44 kf (0 : Int32) w_used a1 (if (18 : Int32) < a2 then (18 : Int32) else a2) (if (18 : Int32) < a2 then (18 : Int32) else a2) (if (18 : Int32) < a2 then (18 : Int32) else a2) (-1 : Int32) a3 _ _ _ hq hP hD hS (lv_sub hl [1, 0] rfl)
set_option maxHeartbeats 4000000 in
set_option maxRecDepth 100000 in
theorem c5_ways (l : Launch) (dC : Nat → ClassId) (dI : Nat → Nat → Nat) (cs : Nat → ClassId) (aw : Nat → Nat) (at_ : Nat → Nat) (rr : Nat → Nat) (ru : Nat → Nat) (w_used : Nat → Int32) (w_kind : Int32) (w_size : Int32) (w_left : Int32) (w_last : Int32) (w_top : Int32) (w_wanted : Int32) (t_fac : Nat → Int64) (t_der : Nat → Int64) (t_rec : Nat → Nat → Int64) (t_rut : Nat → Nat → Int64) (t_ris : Nat → Int64) (a1 : Int32) (a2 : Int32) (a3 : Int32) (a4 : Int32) {Q : Int64 → Prop} (hq : q5_ways w_kind t_fac t_rec t_ris a1 a2 a3 a4 Q) : Met l yX5_ways (.code yX5_ways cX5_ways 5 (some .long) :: gt) ({ frames := 2, cells := 0, slots := 0, locals := 47 } : Room) (va_Pc [.ref (aw 0), .int a1, .int a2, .int a3, .int a4] (Pr (dC, dI) (KA cs) ((wX5 cs aw at_ w_used w_kind w_size w_left w_last w_top w_wanted) ++ (wX3 cs at_ rr ru t_fac t_der t_rec t_rut t_ris)))) (vp_Sl Q) 0 0 (fun _ => False) := by
  refine Met.ofW (cc := cX5_ways) (maxL := 5) (ret := (some .long)) (by decide) rfl ?_
  intro p e s m args below meth c s₁ B hml hv
  obtain ⟨rfl, hP0, hK, hN⟩ := hv
  have hP := va_P_l hP0
  have hO := va_P_r hP0
  have hx := B.exec
  have hb := B.bytes
  have hr := B.returns
  have hts0 := atoms_spec (ws := (.code yX5_ways cX5_ways 5 (some .long) :: gt)) B.pre
  have hts : ∀ w ∈ gt, w.before _ s = true := fun w h => hts0 w (List.mem_cons_of_mem _ h)
  have hown : s.vm.findClass RX5 = some m.cls := findClass_of_methodNamed B.named
  have hlocks := B.notSynchronized
  have hl := lv_entry ([.ref (aw 0), .int a1, .int a2, .int a3, .int a4]) (n := 5) (Nat.le_of_ble_eq_true rfl)
  rw [lg_entry_eq]
  generalize (lg_sl ([.ref (aw 0), .int a1, .int a2, .int a3, .int a4]) ++ List.replicate (5 - (lg_sl ([.ref (aw 0), .int a1, .int a2, .int a3, .int a4])).length) Slot.unset).toArray = ls at hl ⊢
  have hl : lv_has ls 5 [(0, .ref (aw 0)), (1, .int a1), (2, .int a2), (3, .int a3), (4, .int a4)] := hl
  unfold q5_ways at hq
  refine lv_aload_n hx hb dX5_ways_0 rfl (lv_at hl 0 rfl) ?_
  refine va_get (D := (dC, dI)) (ci := 5) (v := .int w_kind) (C := RX5) (T := TX5) (N := 8) hx hb hts uwX5 hown hK hP 0 rfl rfl 2 (by decide) (hts _ fl_X5_19) (fun _ h9 => h9) rfl dX5_ways_1 ?_
  by_cases c6 : w_kind = (1 : Int32)
  · have hq := hq.1 c6
    refine lv_lookup (tgt := 32) (off := 28) hx hb dX5_ways_4 (by decide) (by rw [c6]; rfl) (by decide) ?_
    refine lv_aload_n hx hb dX5_ways_32 rfl (lv_at hl 0 rfl) ?_
    refine va_get (D := (dC, dI)) (ci := 5) (v := .ref (at_ 0)) (C := RX5) (T := TX5) (N := 8) hx hb hts uwX5 hown hK hP 0 rfl rfl 0 (by decide) (hts _ fl_X5_15) (fun _ h9 => h9) rfl dX5_ways_33 ?_
    refine lv_iload_n hx hb dX5_ways_36 rfl (lv_at hl 1 rfl) ?_
    refine lv_iload_n hx hb dX5_ways_37 rfl (lv_at hl 3 rfl) ?_
    refine lv_iload hx hb dX5_ways_38 (lv_at hl 4 rfl) ?_
    refine rol (runV ⟨hx, hb, hml, hown, hts⟩ wf_X3_withRecords ml_X5_75 (c3_withRecords l dC dI cs at_ rr ru t_fac t_der t_rec t_rut t_ris a1 a3 a4 hq) ⟨⟨rfl, rfl⟩, by decide, by decide⟩ (preR hO hK hN) hK hO rfl 0 rfl rfl hl.1 rfl (Nat.le_of_ble_eq_true rfl) dX5_ways_40 ⟨(Nat.le_of_ble_eq_true rfl), (Nat.le_of_ble_eq_true rfl)⟩) (fun r7 hq => ?_)
    exact W.lret (v := r7) hx hb hr (fun t ht hW => ⟨r7, rfl, hq, ht⟩) (fun q h => absurd h List.not_mem_nil) dX5_ways_43
  have hq := hq.2 c6
  by_cases c8 : w_kind = (2 : Int32)
  · have hq := hq.1 c8
    refine lv_lookup (tgt := 44) (off := 40) hx hb dX5_ways_4 (by decide) (by rw [c8]; rfl) (by decide) ?_
    refine lv_aload_n hx hb dX5_ways_44 rfl (lv_at hl 0 rfl) ?_
    refine va_get (D := (dC, dI)) (ci := 5) (v := .ref (at_ 0)) (C := RX5) (T := TX5) (N := 8) hx hb hts uwX5 hown hK hP 0 rfl rfl 0 (by decide) (hts _ fl_X5_15) (fun _ h9 => h9) rfl dX5_ways_45 ?_
    refine lv_iload_n hx hb dX5_ways_48 rfl (lv_at hl 1 rfl) ?_
    refine lv_iload_n hx hb dX5_ways_49 rfl (lv_at hl 2 rfl) ?_
    refine lv_iload hx hb dX5_ways_50 (lv_at hl 4 rfl) ?_
    refine rol (runV ⟨hx, hb, hml, hown, hts⟩ wf_X3_withRises ml_X5_81 (c3_withRises l dC dI cs at_ rr ru t_fac t_der t_rec t_rut t_ris a1 a2 a4 hq) ⟨⟨rfl, rfl⟩, by decide, by decide⟩ (preR hO hK hN) hK hO rfl 0 rfl rfl hl.1 rfl (Nat.le_of_ble_eq_true rfl) dX5_ways_52 ⟨(Nat.le_of_ble_eq_true rfl), (Nat.le_of_ble_eq_true rfl)⟩) (fun r9 hq => ?_)
    exact W.lret (v := r9) hx hb hr (fun t ht hW => ⟨r9, rfl, hq, ht⟩) (fun q h => absurd h List.not_mem_nil) dX5_ways_55
  have hq := hq.2 c8
  refine lv_lookup (tgt := 56) (off := 52) hx hb dX5_ways_4 (by decide) (lk2 (fun e => c6 (Int32.toInt_inj.mp e.symm)) (fun e => c8 (Int32.toInt_inj.mp e.symm))) (by decide) ?_
  refine lv_aload_n hx hb dX5_ways_56 rfl (lv_at hl 0 rfl) ?_
  refine va_get (D := (dC, dI)) (ci := 5) (v := .ref (at_ 0)) (C := RX5) (T := TX5) (N := 8) hx hb hts uwX5 hown hK hP 0 rfl rfl 0 (by decide) (hts _ fl_X5_15) (fun _ h9 => h9) rfl dX5_ways_57 ?_
  refine lv_iload_n hx hb dX5_ways_60 rfl (lv_at hl 1 rfl) ?_
  refine rol (runV ⟨hx, hb, hml, hown, hts⟩ wf_X3_ordersOf ml_X5_84 (c3_ordersOf l dC dI cs at_ rr ru t_fac t_der t_rec t_rut t_ris a1 hq) ⟨⟨rfl, rfl⟩, by decide, by decide⟩ (preR hO hK hN) hK hO rfl 0 rfl rfl hl.1 rfl (Nat.le_of_ble_eq_true rfl) dX5_ways_61 ⟨(Nat.le_of_ble_eq_true rfl), (Nat.le_of_ble_eq_true rfl)⟩) (fun r10 hq => ?_)
  exact W.lret (v := r10) hx hb hr (fun t ht hW => ⟨r10, rfl, hq, ht⟩) (fun q h => absurd h List.not_mem_nil) dX5_ways_64
set_option maxHeartbeats 4000000 in
set_option maxRecDepth 100000 in
theorem c5_waysAtStart (l : Launch) (dC : Nat → ClassId) (dI : Nat → Nat → Nat) (cs : Nat → ClassId) (aw : Nat → Nat) (at_ : Nat → Nat) (rr : Nat → Nat) (ru : Nat → Nat) (w_used : Nat → Int32) (w_kind : Int32) (w_size : Int32) (w_left : Int32) (w_last : Int32) (w_top : Int32) (w_wanted : Int32) (t_fac : Nat → Int64) (t_der : Nat → Int64) (t_rec : Nat → Nat → Int64) (t_rut : Nat → Nat → Int64) (t_ris : Nat → Int64) {Q : Int64 → Prop} (hq : q5_waysAtStart w_kind w_size w_wanted t_fac t_rec t_ris Q) : Met l yX5_waysAtStart (.code yX5_waysAtStart cX5_waysAtStart 1 (some .long) :: gt) ({ frames := 3, cells := 0, slots := 0, locals := 71 } : Room) (va_Pc [.ref (aw 0)] (Pr (dC, dI) (KA cs) ((wX5 cs aw at_ w_used w_kind w_size w_left w_last w_top w_wanted) ++ (wX3 cs at_ rr ru t_fac t_der t_rec t_rut t_ris)))) (vp_Sl Q) 0 0 (fun _ => False) := by
  refine Met.ofW (cc := cX5_waysAtStart) (maxL := 1) (ret := (some .long)) (by decide) rfl ?_
  intro p e s m args below meth c s₁ B hml hv
  obtain ⟨rfl, hP0, hK, hN⟩ := hv
  have hP := va_P_l hP0
  have hO := va_P_r hP0
  have hx := B.exec
  have hb := B.bytes
  have hr := B.returns
  have hts0 := atoms_spec (ws := (.code yX5_waysAtStart cX5_waysAtStart 1 (some .long) :: gt)) B.pre
  have hts : ∀ w ∈ gt, w.before _ s = true := fun w h => hts0 w (List.mem_cons_of_mem _ h)
  have hown : s.vm.findClass RX5 = some m.cls := findClass_of_methodNamed B.named
  have hlocks := B.notSynchronized
  have hl := lv_entry ([.ref (aw 0)]) (n := 1) (Nat.le_of_ble_eq_true rfl)
  rw [lg_entry_eq]
  generalize (lg_sl ([.ref (aw 0)]) ++ List.replicate (1 - (lg_sl ([.ref (aw 0)])).length) Slot.unset).toArray = ls at hl ⊢
  have hl : lv_has ls 1 [(0, .ref (aw 0))] := hl
  unfold q5_waysAtStart at hq
  refine lv_aload_n hx hb dX5_waysAtStart_0 rfl (lv_at hl 0 rfl) ?_
  refine lv_aload_n hx hb dX5_waysAtStart_1 rfl (lv_at hl 0 rfl) ?_
  refine va_get (D := (dC, dI)) (ci := 5) (v := .int w_size) (C := RX5) (T := TX5) (N := 8) hx hb hts uwX5 hown hK hP 0 rfl rfl 3 (by decide) (hts _ fl_X5_29) (fun _ h9 => h9) rfl dX5_waysAtStart_2 ?_
  refine lv_aload_n hx hb dX5_waysAtStart_5 rfl (lv_at hl 0 rfl) ?_
  refine va_get (D := (dC, dI)) (ci := 5) (v := .int w_size) (C := RX5) (T := TX5) (N := 8) hx hb hts uwX5 hown hK hP 0 rfl rfl 3 (by decide) (hts _ fl_X5_29) (fun _ h9 => h9) rfl dX5_waysAtStart_6 ?_
  refine lv_aload_n hx hb dX5_waysAtStart_9 rfl (lv_at hl 0 rfl) ?_
  refine va_get (D := (dC, dI)) (ci := 5) (v := .int w_size) (C := RX5) (T := TX5) (N := 8) hx hb hts uwX5 hown hK hP 0 rfl rfl 3 (by decide) (hts _ fl_X5_29) (fun _ h9 => h9) rfl dX5_waysAtStart_10 ?_
  refine lv_aload_n hx hb dX5_waysAtStart_13 rfl (lv_at hl 0 rfl) ?_
  refine va_get (D := (dC, dI)) (ci := 5) (v := .int w_wanted) (C := RX5) (T := TX5) (N := 8) hx hb hts uwX5 hown hK hP 0 rfl rfl 7 (by decide) (hts _ fl_X5_32) (fun _ h9 => h9) rfl dX5_waysAtStart_14 ?_
  refine rol (runV ⟨hx, hb, hml, hown, hts⟩ wf_X5_ways ml_X5_44 (c5_ways l dC dI cs aw at_ rr ru w_used w_kind w_size w_left w_last w_top w_wanted t_fac t_der t_rec t_rut t_ris w_size w_size w_size w_wanted hq) ⟨⟨rfl, rfl⟩, by decide, by decide⟩ (preR (va_P_app hP hO) hK hN) hK hP rfl 0 rfl rfl hl.1 rfl (Nat.le_of_ble_eq_true rfl) dX5_waysAtStart_17 ⟨(Nat.le_of_ble_eq_true rfl), (Nat.le_of_ble_eq_true rfl)⟩) (fun r2 hq => ?_)
  exact W.lret (v := r2) hx hb hr (fun t ht hW => ⟨r2, rfl, hq, ht⟩) (fun q h => absurd h List.not_mem_nil) dX5_waysAtStart_20
set_option maxHeartbeats 4000000 in
set_option maxRecDepth 100000 in
theorem c5_wantedAfter (l : Launch) (dC : Nat → ClassId) (dI : Nat → Nat → Nat) (cs : Nat → ClassId) (aw : Nat → Nat) (at_ : Nat → Nat) (rr : Nat → Nat) (ru : Nat → Nat) (w_used : Nat → Int32) (w_kind : Int32) (w_size : Int32) (w_left : Int32) (w_last : Int32) (w_top : Int32) (w_wanted : Int32) (t_fac : Nat → Int64) (t_der : Nat → Int64) (t_rec : Nat → Nat → Int64) (t_rut : Nat → Nat → Int64) (t_ris : Nat → Int64) (a1 : Int32) {Q : Int32 → Prop} (hq : q5_wantedAfter w_kind w_last w_top w_wanted a1 Q) : Met l yX5_wantedAfter (.code yX5_wantedAfter cX5_wantedAfter 3 (some .int) :: gt) ({ frames := 0, cells := 0, slots := 0, locals := 0 } : Room) (va_Pc [.ref (aw 0), .int a1] (Pr (dC, dI) (KA cs) ((wX5 cs aw at_ w_used w_kind w_size w_left w_last w_top w_wanted) ++ (wX3 cs at_ rr ru t_fac t_der t_rec t_rut t_ris)))) (vp_Si Q) 0 0 (fun _ => False) := by
  refine Met.ofW (cc := cX5_wantedAfter) (maxL := 3) (ret := (some .int)) (by decide) rfl ?_
  intro p e s m args below meth c s₁ B hml hv
  obtain ⟨rfl, hP0, hK, hN⟩ := hv
  have hP := va_P_l hP0
  have hO := va_P_r hP0
  have hx := B.exec
  have hb := B.bytes
  have hr := B.returns
  have hts0 := atoms_spec (ws := (.code yX5_wantedAfter cX5_wantedAfter 3 (some .int) :: gt)) B.pre
  have hts : ∀ w ∈ gt, w.before _ s = true := fun w h => hts0 w (List.mem_cons_of_mem _ h)
  have hown : s.vm.findClass RX5 = some m.cls := findClass_of_methodNamed B.named
  have hlocks := B.notSynchronized
  have hl := lv_entry ([.ref (aw 0), .int a1]) (n := 3) (Nat.le_of_ble_eq_true rfl)
  rw [lg_entry_eq]
  generalize (lg_sl ([.ref (aw 0), .int a1]) ++ List.replicate (3 - (lg_sl ([.ref (aw 0), .int a1])).length) Slot.unset).toArray = ls at hl ⊢
  have hl : lv_has ls 3 [(0, .ref (aw 0)), (1, .int a1)] := hl
  have B45 : ∀ (s0 : Int32) (ls : Array Slot), q5_wantedAfter_45 w_kind w_last w_top w_wanted Q s0 → lv_has ls 3 [(0, .ref (aw 0))] → W p l e ({ frames := 0, cells := 0, slots := 0, locals := 0 } : Room) s m ([.ref (aw 0), .int a1] : List Value).toArray below meth c s.heap [] 0 0 (MQ below (vp_Si Q) ([.ref (aw 0), .int a1] : List Value).toArray s 0 0 (fun _ => False)) (F0 m 45 ls [.int s0]) := by
    intro s0 ls hq hl
    unfold q5_wantedAfter_45 at hq
    refine lv_istore_n (lv' := [(2, .int s0), (0, .ref (aw 0))]) hx hb dX5_wantedAfter_45 rfl hl (by decide) rfl (fun ls hl => ?_)
    refine lv_iload_n hx hb dX5_wantedAfter_46 rfl (lv_at hl 0 rfl) ?_
    refine lv_if_eq (tgt := 59) hx hb dX5_wantedAfter_47 (by decide) (fun c6 => ?_) (fun c6 => ?_)
    · have hq := hq.1 c6
      refine lv_aload_n hx hb dX5_wantedAfter_59 rfl (lv_at hl 1 rfl) ?_
      refine va_get (D := (dC, dI)) (ci := 5) (v := .int w_wanted) (C := RX5) (T := TX5) (N := 8) hx hb hts uwX5 hown hK hP 0 rfl rfl 7 (by decide) (hts _ fl_X5_32) (fun _ h9 => h9) rfl dX5_wantedAfter_60 ?_
      exact W.iret (v := w_wanted) hx hb hr (fun t ht hW => ⟨w_wanted, rfl, hq, ht⟩) (fun q h => absurd h List.not_mem_nil) dX5_wantedAfter_63
    · have hq := hq.2 c6
      refine lv_aload_n hx hb dX5_wantedAfter_50 rfl (lv_at hl 1 rfl) ?_
      refine va_get (D := (dC, dI)) (ci := 5) (v := .int w_wanted) (C := RX5) (T := TX5) (N := 8) hx hb hts uwX5 hown hK hP 0 rfl rfl 7 (by decide) (hts _ fl_X5_32) (fun _ h9 => h9) rfl dX5_wantedAfter_51 ?_
      refine lv_iconst (v := (1 : Int32)) hx hb dX5_wantedAfter_54 (by decide) ?_
      refine lv_isub hx hb dX5_wantedAfter_55 ?_
      refine lv_goto (tgt := 63) hx hb dX5_wantedAfter_56 (by decide) ?_
      exact W.iret (v := (w_wanted - (1 : Int32))) hx hb hr (fun t ht hW => ⟨(w_wanted - (1 : Int32)), rfl, hq, ht⟩) (fun q h => absurd h List.not_mem_nil) dX5_wantedAfter_63
  unfold q5_wantedAfter at hq
  refine lv_aload_n hx hb dX5_wantedAfter_0 rfl (lv_at hl 0 rfl) ?_
  refine va_get (D := (dC, dI)) (ci := 5) (v := .int w_kind) (C := RX5) (T := TX5) (N := 8) hx hb hts uwX5 hown hK hP 0 rfl rfl 2 (by decide) (hts _ fl_X5_19) (fun _ h9 => h9) rfl dX5_wantedAfter_1 ?_
  refine lv_iconst (v := (1 : Int32)) hx hb dX5_wantedAfter_4 (by decide) ?_
  refine lv_icmp_ne (tgt := 24) hx hb dX5_wantedAfter_5 (by decide) (fun c7 => ?_) (fun c7 => ?_)
  · have hq := hq.1 c7
    refine lv_aload_n hx hb dX5_wantedAfter_24 rfl (lv_at hl 0 rfl) ?_
    refine va_get (D := (dC, dI)) (ci := 5) (v := .int w_kind) (C := RX5) (T := TX5) (N := 8) hx hb hts uwX5 hown hK hP 0 rfl rfl 2 (by decide) (hts _ fl_X5_19) (fun _ h9 => h9) rfl dX5_wantedAfter_25 ?_
    refine lv_iconst (v := (2 : Int32)) hx hb dX5_wantedAfter_28 (by decide) ?_
    refine lv_icmp_ne (tgt := 44) hx hb dX5_wantedAfter_29 (by decide) (fun c8 => ?_) (fun c8 => ?_)
    · have hq := hq.1 c8
      refine lv_iconst (v := (0 : Int32)) hx hb dX5_wantedAfter_44 (by decide) ?_
      exact B45 (0 : Int32) _ hq (lv_sub hl [0] rfl)
    · have hq := hq.2 c8
      refine lv_iload_n hx hb dX5_wantedAfter_32 rfl (lv_at hl 1 rfl) ?_
      refine lv_aload_n hx hb dX5_wantedAfter_33 rfl (lv_at hl 0 rfl) ?_
      refine va_get (D := (dC, dI)) (ci := 5) (v := .int w_last) (C := RX5) (T := TX5) (N := 8) hx hb hts uwX5 hown hK hP 0 rfl rfl 5 (by decide) (hts _ fl_X5_38) (fun _ h9 => h9) rfl dX5_wantedAfter_34 ?_
      refine lv_icmp_le (tgt := 44) hx hb dX5_wantedAfter_37 (by decide) (fun c9 => ?_) (fun c9 => ?_)
      · have hq := hq.1 c9
        refine lv_iconst (v := (0 : Int32)) hx hb dX5_wantedAfter_44 (by decide) ?_
        exact B45 (0 : Int32) _ hq (lv_sub hl [0] rfl)
      · have hq := hq.2 c9
        refine lv_iconst (v := (1 : Int32)) hx hb dX5_wantedAfter_40 (by decide) ?_
        refine lv_goto (tgt := 45) hx hb dX5_wantedAfter_41 (by decide) ?_
        exact B45 (1 : Int32) _ hq (lv_sub hl [0] rfl)
  · have hq := hq.2 c7
    refine lv_iload_n hx hb dX5_wantedAfter_8 rfl (lv_at hl 1 rfl) ?_
    refine lv_aload_n hx hb dX5_wantedAfter_9 rfl (lv_at hl 0 rfl) ?_
    refine va_get (D := (dC, dI)) (ci := 5) (v := .int w_top) (C := RX5) (T := TX5) (N := 8) hx hb hts uwX5 hown hK hP 0 rfl rfl 6 (by decide) (hts _ fl_X5_41) (fun _ h9 => h9) rfl dX5_wantedAfter_10 ?_
    refine lv_icmp_le (tgt := 20) hx hb dX5_wantedAfter_13 (by decide) (fun c10 => ?_) (fun c10 => ?_)
    · have hq := hq.1 c10
      refine lv_iconst (v := (0 : Int32)) hx hb dX5_wantedAfter_20 (by decide) ?_
      refine lv_goto (tgt := 45) hx hb dX5_wantedAfter_21 (by decide) ?_
      exact B45 (0 : Int32) _ hq (lv_sub hl [0] rfl)
    · have hq := hq.2 c10
      refine lv_iconst (v := (1 : Int32)) hx hb dX5_wantedAfter_16 (by decide) ?_
      refine lv_goto (tgt := 45) hx hb dX5_wantedAfter_17 (by decide) ?_
      exact B45 (1 : Int32) _ hq (lv_sub hl [0] rfl)
