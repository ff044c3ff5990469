set_option maxHeartbeats 8000000 in
set_option maxRecDepth 100000 in
theorem c1_init (l : Launch) (dC : Nat → ClassId) (dI : Nat → Nat → Nat) (cs : Nat → ClassId) (h0 : Nat) (sz : Nat)  : Met l yX1_init (.code yX1_init cX1_init 1 none :: gt) ({ frames := 1, cells := 2, slots := 36, locals := 12 } : Room) (va_Pc [.ref h0] (Pw (dC, dI) (KA cs) [(h0, .inr (1, [.null, .null, .int 0]))] sz)) (va_Qv (fun u : Nat → Nat => u 0 = h0) (Bw (dC, dI) (KA cs) (va_A [(h0, .inr (1, [.null, .null, .int 0]))] sz) (fun u : Nat → Nat => wX1 cs u (fun _ => 0) (fun _ => 0) 0)) (va_A [(h0, .inr (1, [.null, .null, .int 0]))] sz)) 2 36 (va_A [(h0, .inr (1, [.null, .null, .int 0]))] sz) := by
  refine Met.ofW (cc := cX1_init) (maxL := 1) (ret := none) (by decide) rfl ?_
  intro p e s m args below meth c s₁ B hml hv
  obtain ⟨rfl, hsz, hP, hK, hD0, hN⟩ := hv
  have hx := B.exec
  have hb := B.bytes
  have hr := B.returns
  have hts0 := atoms_spec (ws := (.code yX1_init cX1_init 1 none :: gt)) B.pre
  have hts : ∀ w ∈ gt, w.before _ s = true := fun w h => hts0 w (List.mem_cons_of_mem _ h)
  have hown : s.vm.findClass RX1 = some m.cls := findClass_of_methodNamed B.named
  have hlocks := B.notSynchronized
  have hin : meth.name = "<init>" := (name_of_methodNamed B.named B.method).1
  subst hsz
  have hD := hD0.self (sz := s.heap.size)
  generalize hAe : va_A [(h0, .inr (1, [.null, .null, .int 0]))] s.heap.size = A at hD ⊢
  have hA : ∀ q : Nat, s.heap.size ≤ q → A q := fun q h => by rw [← hAe]; exact Or.inr h
  have hS : va_S A s.heap s.heap [] := va_S.rf
  have hl := lv_entry ([.ref h0]) (n := 1) (Nat.le_of_ble_eq_true rfl)
  rw [lg_entry_eq]
  generalize (lg_sl ([.ref h0]) ++ List.replicate (1 - (lg_sl ([.ref h0])).length) Slot.unset).toArray = ls at hl ⊢
  have hl : lv_has ls 1 [(0, .ref h0)] := hl
  refine lv_aload_n hx hb dX1_init_0 rfl (lv_at hl 0 rfl) ?_
  refine W.objInit hx hb hown (hts _ ml_X1_3) (hts _ im_obj) (hts _ cw_obj) rfl (by rw [hml]; exact hl.1) rfl dX1_init_1 (Nat.le_of_ble_eq_true rfl) (Nat.le_of_ble_eq_true rfl) ?_
  refine W.eq (g2 := F0 m 4 ls []) rfl ?_
  refine lv_aload_n hx hb dX1_init_4 rfl (lv_at hl 0 rfl) ?_
  refine lv_bipush (v := (18 : Int32)) hx hb dX1_init_5 (by decide) ?_
  refine nwa (atype := .int) (N' := 18) (a0 := (18, .inl (fun _ => 0))) hx hb (hts _ ac_int) rfl (fun _ _ h => h) hK 0 rfl hP hD hS hA (fun _ => rfl) (by decide +kernel) (by decide +kernel) (by decide +kernel) (Nat.le_of_ble_eq_true rfl) (Nat.le_of_ble_eq_true rfl) dX1_init_7 (fun q1 H hP hD hS => ?_)
  have hP : va_P (dC, dI) vwCl ([(h0, .inr (1, [.null, .null, .int 0]))] ++ ([(q1, .inl ((cs 0), 18, .inl (fun _ => 0)))])) H := hP
  have hD : va_D A ([(h0, .inr (1, [.null, .null, .int 0]))] ++ ([(q1, .inl ((cs 0), 18, .inl (fun _ => 0)))])) := hD
  refine va_putF (D := (dC, dI)) (ci := 1) (v := .ref q1) (ty := .array .int) (C := RX1) (T := TX1) (N := 3) hx hb hts uwX1 tyX1 tyX1_ok nmX1 hown hK hP hD hS 0 rfl rfl 0 (by decide) (hts _ fl_X1_9) (fun _ h9 => h9) rfl hin rfl (by decide +kernel) rfl rfl (Nat.le_of_ble_eq_true rfl) dX1_init_9 (fun H locs hP hD hS => ?_)
  have hP : va_P (dC, dI) vwCl ([(h0, .inr (1, [.ref q1, .null, .int 0]))] ++ ([(q1, .inl ((cs 0), 18, .inl (fun _ => 0)))])) H := hP
  have hD : va_D A ([(h0, .inr (1, [.ref q1, .null, .int 0]))] ++ ([(q1, .inl ((cs 0), 18, .inl (fun _ => 0)))])) := hD
  refine lv_aload_n hx hb dX1_init_12 rfl (lv_at hl 0 rfl) ?_
  refine lv_bipush (v := (18 : Int32)) hx hb dX1_init_13 (by decide) ?_
  refine nwa (atype := .int) (N' := 18) (a0 := (18, .inl (fun _ => 0))) hx hb (hts _ ac_int) rfl (fun _ _ h => h) hK 0 rfl hP hD hS hA (fun _ => rfl) (by decide +kernel) (by decide +kernel) (by decide +kernel) (Nat.le_of_ble_eq_true rfl) (Nat.le_of_ble_eq_true rfl) dX1_init_15 (fun q2 H hP hD hS => ?_)
  have hP : va_P (dC, dI) vwCl ([(h0, .inr (1, [.ref q1, .null, .int 0]))] ++ ([(q1, .inl ((cs 0), 18, .inl (fun _ => 0)))] ++ ([(q2, .inl ((cs 0), 18, .inl (fun _ => 0)))]))) H := hP
  have hD : va_D A ([(h0, .inr (1, [.ref q1, .null, .int 0]))] ++ ([(q1, .inl ((cs 0), 18, .inl (fun _ => 0)))] ++ ([(q2, .inl ((cs 0), 18, .inl (fun _ => 0)))]))) := hD
  refine va_putF (D := (dC, dI)) (ci := 1) (v := .ref q2) (ty := .array .int) (C := RX1) (T := TX1) (N := 3) hx hb hts uwX1 tyX1 tyX1_ok nmX1 hown hK hP hD hS 0 rfl rfl 1 (by decide) (hts _ fl_X1_15) (fun _ h9 => h9) rfl hin rfl (by decide +kernel) rfl rfl (Nat.le_of_ble_eq_true rfl) dX1_init_17 (fun H locs hP hD hS => ?_)
  have hP : va_P (dC, dI) vwCl ([(h0, .inr (1, [.ref q1, .ref q2, .int 0]))] ++ ([(q1, .inl ((cs 0), 18, .inl (fun _ => 0)))] ++ ([(q2, .inl ((cs 0), 18, .inl (fun _ => 0)))]))) H := hP
  have hD : va_D A ([(h0, .inr (1, [.ref q1, .ref q2, .int 0]))] ++ ([(q1, .inl ((cs 0), 18, .inl (fun _ => 0)))] ++ ([(q2, .inl ((cs 0), 18, .inl (fun _ => 0)))]))) := hD
  have hP : va_P (dC, dI) vwCl (wX1 cs (fun k => ([h0, q1, q2] : List Nat).getD k 0) (fun _ => 0) (fun _ => 0) 0) H := hP
  have hD : va_D A (wX1 cs (fun k => ([h0, q1, q2] : List Nat).getD k 0) (fun _ => 0) (fun _ => 0) 0) := hD
  exact W.vret hx hb hr (fun t ht hW => ⟨⟨(fun k => ([h0, q1, q2] : List Nat).getD k 0), rfl, rfl, Bw_mk (by rw [ht]; exact hP) (va_K.moved hW.alike hK) hD⟩, hS.F ht⟩) hS.2.2 dX1_init_20
set_option maxHeartbeats 8000000 in
set_option maxRecDepth 100000 in
theorem c5_init (l : Launch) (dC : Nat → ClassId) (dI : Nat → Nat → Nat) (cs : Nat → ClassId) (h0 : Nat) (at_ : Nat → Nat) (sz : Nat)  : Met l yX5_init (.code yX5_init cX5_init 2 none :: gt) ({ frames := 1, cells := 1, slots := 18, locals := 12 } : Room) (va_Pc [.ref h0, .ref (at_ 0)] (Pw (dC, dI) (KA cs) [(h0, .inr (5, [.null, .null, .int 0, .int 0, .int 0, .int 0, .int 0, .int 0]))] sz)) (va_Qv (fun u : Nat → Nat => u 0 = h0) (Bw (dC, dI) (KA cs) (va_A [(h0, .inr (5, [.null, .null, .int 0, .int 0, .int 0, .int 0, .int 0, .int 0]))] sz) (fun u : Nat → Nat => wX5 cs u at_ (fun _ => 0) 0 0 0 0 0 0)) (va_A [(h0, .inr (5, [.null, .null, .int 0, .int 0, .int 0, .int 0, .int 0, .int 0]))] sz)) 1 18 (va_A [(h0, .inr (5, [.null, .null, .int 0, .int 0, .int 0, .int 0, .int 0, .int 0]))] sz) := by
  refine Met.ofW (cc := cX5_init) (maxL := 2) (ret := none) (by decide) rfl ?_
  intro p e s m args below meth c s₁ B hml hv
  obtain ⟨rfl, hsz, hP, hK, hD0, hN⟩ := hv
  have hx := B.exec
  have hb := B.bytes
  have hr := B.returns
  have hts0 := atoms_spec (ws := (.code yX5_init cX5_init 2 none :: gt)) B.pre
  have hts : ∀ w ∈ gt, w.before _ s = true := fun w h => hts0 w (List.mem_cons_of_mem _ h)
  have hown : s.vm.findClass RX5 = some m.cls := findClass_of_methodNamed B.named
  have hlocks := B.notSynchronized
  have hin : meth.name = "<init>" := (name_of_methodNamed B.named B.method).1
  subst hsz
  have hD := hD0.self (sz := s.heap.size)
  generalize hAe : va_A [(h0, .inr (5, [.null, .null, .int 0, .int 0, .int 0, .int 0, .int 0, .int 0]))] s.heap.size = A at hD ⊢
  have hA : ∀ q : Nat, s.heap.size ≤ q → A q := fun q h => by rw [← hAe]; exact Or.inr h
  have hS : va_S A s.heap s.heap [] := va_S.rf
  have hl := lv_entry ([.ref h0, .ref (at_ 0)]) (n := 2) (Nat.le_of_ble_eq_true rfl)
  rw [lg_entry_eq]
  generalize (lg_sl ([.ref h0, .ref (at_ 0)]) ++ List.replicate (2 - (lg_sl ([.ref h0, .ref (at_ 0)])).length) Slot.unset).toArray = ls at hl ⊢
  have hl : lv_has ls 2 [(0, .ref h0), (1, .ref (at_ 0))] := hl
  refine lv_aload_n hx hb dX5_init_0 rfl (lv_at hl 0 rfl) ?_
  refine W.objInit hx hb hown (hts _ ml_X5_3) (hts _ im_obj) (hts _ cw_obj) rfl (by rw [hml]; exact hl.1) rfl dX5_init_1 (Nat.le_of_ble_eq_true rfl) (Nat.le_of_ble_eq_true rfl) ?_
  refine W.eq (g2 := F0 m 4 ls []) rfl ?_
  refine lv_aload_n hx hb dX5_init_4 rfl (lv_at hl 0 rfl) ?_
  refine lv_bipush (v := (18 : Int32)) hx hb dX5_init_5 (by decide) ?_
  refine nwa (atype := .boolean) (N' := 18) (a0 := (18, .inl (fun _ => 0))) hx hb (hts _ ac_boolean) rfl (fun _ _ h => h) hK 2 rfl hP hD hS hA (fun _ => rfl) (by decide +kernel) (by decide +kernel) (by decide +kernel) (Nat.le_of_ble_eq_true rfl) (Nat.le_of_ble_eq_true rfl) dX5_init_7 (fun q1 H hP hD hS => ?_)
  have hP : va_P (dC, dI) vwCl ([(h0, .inr (5, [.null, .null, .int 0, .int 0, .int 0, .int 0, .int 0, .int 0]))] ++ ([(q1, .inl ((cs 2), 18, .inl (fun _ => 0)))])) H := hP
  have hD : va_D A ([(h0, .inr (5, [.null, .null, .int 0, .int 0, .int 0, .int 0, .int 0, .int 0]))] ++ ([(q1, .inl ((cs 2), 18, .inl (fun _ => 0)))])) := hD
  refine va_putF (D := (dC, dI)) (ci := 5) (v := .ref q1) (ty := .array .boolean) (C := RX5) (T := TX5) (N := 8) hx hb hts uwX5 tyX5 tyX5_ok nmX5 hown hK hP hD hS 0 rfl rfl 1 (by decide) (hts _ fl_X5_9) (fun _ h9 => h9) rfl hin rfl (by decide +kernel) rfl rfl (Nat.le_of_ble_eq_true rfl) dX5_init_9 (fun H locs hP hD hS => ?_)
  have hP : va_P (dC, dI) vwCl ([(h0, .inr (5, [.null, .ref q1, .int 0, .int 0, .int 0, .int 0, .int 0, .int 0]))] ++ ([(q1, .inl ((cs 2), 18, .inl (fun _ => 0)))])) H := hP
  have hD : va_D A ([(h0, .inr (5, [.null, .ref q1, .int 0, .int 0, .int 0, .int 0, .int 0, .int 0]))] ++ ([(q1, .inl ((cs 2), 18, .inl (fun _ => 0)))])) := hD
  refine lv_aload_n hx hb dX5_init_12 rfl (lv_at hl 0 rfl) ?_
  refine lv_aload_n hx hb dX5_init_13 rfl (lv_at hl 1 rfl) ?_
  refine va_putF (D := (dC, dI)) (ci := 5) (v := .ref (at_ 0)) (ty := .object "HundredBoxes$Tables") (C := RX5) (T := TX5) (N := 8) hx hb hts uwX5 tyX5 tyX5_ok nmX5 hown hK hP hD hS 0 rfl rfl 0 (by decide) (hts _ fl_X5_15) (fun _ h9 => h9) rfl hin rfl (by decide +kernel) rfl rfl (Nat.le_of_ble_eq_true rfl) dX5_init_14 (fun H locs hP hD hS => ?_)
  have hP : va_P (dC, dI) vwCl ([(h0, .inr (5, [.ref (at_ 0), .ref q1, .int 0, .int 0, .int 0, .int 0, .int 0, .int 0]))] ++ ([(q1, .inl ((cs 2), 18, .inl (fun _ => 0)))])) H := hP
  have hD : va_D A ([(h0, .inr (5, [.ref (at_ 0), .ref q1, .int 0, .int 0, .int 0, .int 0, .int 0, .int 0]))] ++ ([(q1, .inl ((cs 2), 18, .inl (fun _ => 0)))])) := hD
  have hP : va_P (dC, dI) vwCl (wX5 cs (fun k => ([h0, q1] : List Nat).getD k 0) at_ (fun _ => 0) 0 0 0 0 0 0) H := hP
  have hD : va_D A (wX5 cs (fun k => ([h0, q1] : List Nat).getD k 0) at_ (fun _ => 0) 0 0 0 0 0 0) := hD
  exact W.vret hx hb hr (fun t ht hW => ⟨⟨(fun k => ([h0, q1] : List Nat).getD k 0), rfl, rfl, Bw_mk (by rw [ht]; exact hP) (va_K.moved hW.alike hK) hD⟩, hS.F ht⟩) hS.2.2 dX5_init_17
set_option maxHeartbeats 8000000 in
set_option maxRecDepth 100000 in
theorem c2_init (l : Launch) (dC : Nat → ClassId) (dI : Nat → Nat → Nat) (cs : Nat → ClassId) (h0 : Nat) (a1 : Int32) (sz : Nat)  : Met l yX2_init (.code yX2_init cX2_init 2 none :: gt) ({ frames := 1, cells := 1, slots := 18, locals := 12 } : Room) (va_Pc [.ref h0, .int a1] (Pw (dC, dI) (KA cs) [(h0, .inr (2, [.null, .int 0]))] sz)) (va_Qv (fun u : Nat → Nat => u 0 = h0) (Bw (dC, dI) (KA cs) (va_A [(h0, .inr (2, [.null, .int 0]))] sz) (fun u : Nat → Nat => wX2 cs u (upd (fun _ => 0) 0 a1) 1)) (va_A [(h0, .inr (2, [.null, .int 0]))] sz)) 1 18 (va_A [(h0, .inr (2, [.null, .int 0]))] sz) := by
  refine Met.ofW (cc := cX2_init) (maxL := 2) (ret := none) (by decide) rfl ?_
  intro p e s m args below meth c s₁ B hml hv
  obtain ⟨rfl, hsz, hP, hK, hD0, hN⟩ := hv
  have hx := B.exec
  have hb := B.bytes
  have hr := B.returns
  have hts0 := atoms_spec (ws := (.code yX2_init cX2_init 2 none :: gt)) B.pre
  have hts : ∀ w ∈ gt, w.before _ s = true := fun w h => hts0 w (List.mem_cons_of_mem _ h)
  have hown : s.vm.findClass RX2 = some m.cls := findClass_of_methodNamed B.named
  have hlocks := B.notSynchronized
  have hin : meth.name = "<init>" := (name_of_methodNamed B.named B.method).1
  subst hsz
  have hD := hD0.self (sz := s.heap.size)
  generalize hAe : va_A [(h0, .inr (2, [.null, .int 0]))] s.heap.size = A at hD ⊢
  have hA : ∀ q : Nat, s.heap.size ≤ q → A q := fun q h => by rw [← hAe]; exact Or.inr h
  have hS : va_S A s.heap s.heap [] := va_S.rf
  have hl := lv_entry ([.ref h0, .int a1]) (n := 2) (Nat.le_of_ble_eq_true rfl)
  rw [lg_entry_eq]
  generalize (lg_sl ([.ref h0, .int a1]) ++ List.replicate (2 - (lg_sl ([.ref h0, .int a1])).length) Slot.unset).toArray = ls at hl ⊢
  have hl : lv_has ls 2 [(0, .ref h0), (1, .int a1)] := hl
  refine lv_aload_n hx hb dX2_init_0 rfl (lv_at hl 0 rfl) ?_
  refine W.objInit hx hb hown (hts _ ml_X2_3) (hts _ im_obj) (hts _ cw_obj) rfl (by rw [hml]; exact hl.1) rfl dX2_init_1 (Nat.le_of_ble_eq_true rfl) (Nat.le_of_ble_eq_true rfl) ?_
  refine W.eq (g2 := F0 m 4 ls []) rfl ?_
  refine lv_aload_n hx hb dX2_init_4 rfl (lv_at hl 0 rfl) ?_
  refine lv_bipush (v := (18 : Int32)) hx hb dX2_init_5 (by decide) ?_
  refine nwa (atype := .int) (N' := 18) (a0 := (18, .inl (fun _ => 0))) hx hb (hts _ ac_int) rfl (fun _ _ h => h) hK 0 rfl hP hD hS hA (fun _ => rfl) (by decide +kernel) (by decide +kernel) (by decide +kernel) (Nat.le_of_ble_eq_true rfl) (Nat.le_of_ble_eq_true rfl) dX2_init_7 (fun q1 H hP hD hS => ?_)
  have hP : va_P (dC, dI) vwCl ([(h0, .inr (2, [.null, .int 0]))] ++ ([(q1, .inl ((cs 0), 18, .inl (fun _ => 0)))])) H := hP
  have hD : va_D A ([(h0, .inr (2, [.null, .int 0]))] ++ ([(q1, .inl ((cs 0), 18, .inl (fun _ => 0)))])) := hD
  refine va_putF (D := (dC, dI)) (ci := 2) (v := .ref q1) (ty := .array .int) (C := RX2) (T := TX2) (N := 2) hx hb hts uwX2 tyX2 tyX2_ok nmX2 hown hK hP hD hS 0 rfl rfl 0 (by decide) (hts _ fl_X2_9) (fun _ h9 => h9) rfl hin rfl (by decide +kernel) rfl rfl (Nat.le_of_ble_eq_true rfl) dX2_init_9 (fun H locs hP hD hS => ?_)
  have hP : va_P (dC, dI) vwCl ([(h0, .inr (2, [.ref q1, .int 0]))] ++ ([(q1, .inl ((cs 0), 18, .inl (fun _ => 0)))])) H := hP
  have hD : va_D A ([(h0, .inr (2, [.ref q1, .int 0]))] ++ ([(q1, .inl ((cs 0), 18, .inl (fun _ => 0)))])) := hD
  refine lv_aload_n hx hb dX2_init_12 rfl (lv_at hl 0 rfl) ?_
  refine lv_iconst (v := (1 : Int32)) hx hb dX2_init_13 (by decide) ?_
  refine va_put (D := (dC, dI)) (ci := 2) (v := .int 1) (ty := .int) (C := RX2) (T := TX2) (N := 2) hx hb hts uwX2 tyX2 tyX2_ok nmX2 hown hK hP hD hS 0 rfl rfl 1 (by decide) (hts _ fl_X2_15) (fun _ h9 => h9) rfl (by decide +kernel) rfl rfl (Nat.le_of_ble_eq_true rfl) dX2_init_14 (fun H locs hP hD hS => ?_)
  have hP : va_P (dC, dI) vwCl ([(h0, .inr (2, [.ref q1, .int 1]))] ++ ([(q1, .inl ((cs 0), 18, .inl (fun _ => 0)))])) H := hP
  have hD : va_D A ([(h0, .inr (2, [.ref q1, .int 1]))] ++ ([(q1, .inl ((cs 0), 18, .inl (fun _ => 0)))])) := hD
  refine lv_aload_n hx hb dX2_init_17 rfl (lv_at hl 0 rfl) ?_
  refine va_get (D := (dC, dI)) (ci := 2) (v := .ref q1) (C := RX2) (T := TX2) (N := 2) hx hb hts uwX2 hown hK hP 0 rfl rfl 0 (by decide) (hts _ fl_X2_9) (fun _ h9 => h9) rfl dX2_init_18 ?_
  refine lv_iconst (v := (0 : Int32)) hx hb dX2_init_21 (by decide) ?_
  refine lv_iload_n hx hb dX2_init_22 rfl (lv_at hl 1 rfl) ?_
  refine va_iast hx hb hK hP hD hS 1 0 rfl rfl (by rw [vp_in_iff]; decide) dX2_init_23 (fun H locs hP hD hS => ?_)
  have hP : va_P (dC, dI) vwCl (wX2 cs (fun k => ([h0, q1] : List Nat).getD k 0) (upd (fun _ => 0) 0 a1) 1) H := hP
  have hD : va_D A (wX2 cs (fun k => ([h0, q1] : List Nat).getD k 0) (upd (fun _ => 0) 0 a1) 1) := hD
  exact W.vret hx hb hr (fun t ht hW => ⟨⟨(fun k => ([h0, q1] : List Nat).getD k 0), rfl, rfl, Bw_mk (by rw [ht]; exact hP) (va_K.moved hW.alike hK) hD⟩, hS.F ht⟩) hS.2.2 dX2_init_24
set_option maxHeartbeats 8000000 in
set_option maxRecDepth 100000 in
theorem c7_init (l : Launch) (dC : Nat → ClassId) (dI : Nat → Nat → Nat) (cs : Nat → ClassId) (h0 : Nat) (sz : Nat) {Q : (Nat → Int32) → (Nat → Int32) → Int32 → (Nat → Int32) → Prop} (hq : q7_begin 4 (fun _ => 0) (fun _ => 0) 2 (fun _ => 0) Q) : Met l yX7_init (.code yX7_init cX7_init 1 none :: gt) ({ frames := 1, cells := 10, slots := 7768, locals := 22 } : Room) (va_Pc [.ref h0] (Pw (dC, dI) (KA cs) [(h0, .inr (7, [.int 0, .null, .null, .int 0, .null, .null, .null, .null, .null, .null, .null, .int 0, .null, .int 0, .int 0, .int 0]))] sz)) (va_Qv (fun u : (Nat → Nat) × (Nat → Int32) × (Nat → Int32) × Int32 × (Nat → Int32) => u.1 0 = h0 ∧ Q u.2.1 u.2.2.1 u.2.2.2.1 u.2.2.2.2) (Bw (dC, dI) (KA cs) (va_A [(h0, .inr (7, [.int 0, .null, .null, .int 0, .null, .null, .null, .null, .null, .null, .null, .int 0, .null, .int 0, .int 0, .int 0]))] sz) (fun u : (Nat → Nat) × (Nat → Int32) × (Nat → Int32) × Int32 × (Nat → Int32) => (wX7 cs u.1 4 u.2.1 u.2.2.1 u.2.2.2.1 (fun _ => 0) u.2.2.2.2 (fun _ => 0) (fun _ => 0) (fun _ => 0) (fun _ => 0) (fun _ => 0) 0 (fun _ => 0) 0 0 0))) (va_A [(h0, .inr (7, [.int 0, .null, .null, .int 0, .null, .null, .null, .null, .null, .null, .null, .int 0, .null, .int 0, .int 0, .int 0]))] sz)) 10 7768 (va_A [(h0, .inr (7, [.int 0, .null, .null, .int 0, .null, .null, .null, .null, .null, .null, .null, .int 0, .null, .int 0, .int 0, .int 0]))] sz) := by
  refine Met.ofW (cc := cX7_init) (maxL := 1) (ret := none) (by decide) rfl ?_
  intro p e s m args below meth c s₁ B hml hv
  obtain ⟨rfl, hsz, hP, hK, hD0, hN⟩ := hv
  have hx := B.exec
  have hb := B.bytes
  have hr := B.returns
  have hts0 := atoms_spec (ws := (.code yX7_init cX7_init 1 none :: gt)) B.pre
  have hts : ∀ w ∈ gt, w.before _ s = true := fun w h => hts0 w (List.mem_cons_of_mem _ h)
  have hown : s.vm.findClass RX7 = some m.cls := findClass_of_methodNamed B.named
  have hlocks := B.notSynchronized
  have hin : meth.name = "<init>" := (name_of_methodNamed B.named B.method).1
  subst hsz
  have hD := hD0.self (sz := s.heap.size)
  generalize hAe : va_A [(h0, .inr (7, [.int 0, .null, .null, .int 0, .null, .null, .null, .null, .null, .null, .null, .int 0, .null, .int 0, .int 0, .int 0]))] s.heap.size = A at hD ⊢
  have hA : ∀ q : Nat, s.heap.size ≤ q → A q := fun q h => by rw [← hAe]; exact Or.inr h
  have hS : va_S A s.heap s.heap [] := va_S.rf
  have hl := lv_entry ([.ref h0]) (n := 1) (Nat.le_of_ble_eq_true rfl)
  rw [lg_entry_eq]
  generalize (lg_sl ([.ref h0]) ++ List.replicate (1 - (lg_sl ([.ref h0])).length) Slot.unset).toArray = ls at hl ⊢
  have hl : lv_has ls 1 [(0, .ref h0)] := hl
  refine lv_aload_n hx hb dX7_init_0 rfl (lv_at hl 0 rfl) ?_
  refine W.objInit hx hb hown (hts _ ml_X7_1) (hts _ im_obj) (hts _ cw_obj) rfl (by rw [hml]; exact hl.1) rfl dX7_init_1 (Nat.le_of_ble_eq_true rfl) (Nat.le_of_ble_eq_true rfl) ?_
  refine W.eq (g2 := F0 m 4 ls []) rfl ?_
  refine lv_aload_n hx hb dX7_init_4 rfl (lv_at hl 0 rfl) ?_
  refine lv_iconst (v := (4 : Int32)) hx hb dX7_init_5 (by decide) ?_
  refine va_put (D := (dC, dI)) (ci := 7) (v := .int 4) (ty := .int) (C := RX7) (T := TX7) (N := 16) hx hb hts uwX7 tyX7 tyX7_ok nmX7 hown hK hP hD hS 0 rfl rfl 0 (by decide) (hts _ fl_X7_7) (fun _ h9 => h9) rfl (by decide +kernel) rfl rfl (Nat.le_of_ble_eq_true rfl) dX7_init_6 (fun H locs hP hD hS => ?_)
  have hP : va_P (dC, dI) vwCl ([(h0, .inr (7, [.int 4, .null, .null, .int 0, .null, .null, .null, .null, .null, .null, .null, .int 0, .null, .int 0, .int 0, .int 0]))]) H := hP
  have hD : va_D A ([(h0, .inr (7, [.int 4, .null, .null, .int 0, .null, .null, .null, .null, .null, .null, .null, .int 0, .null, .int 0, .int 0, .int 0]))]) := hD
  refine lv_aload_n hx hb dX7_init_9 rfl (lv_at hl 0 rfl) ?_
  refine lv_bipush (v := (18 : Int32)) hx hb dX7_init_10 (by decide) ?_
  refine nwa (atype := .int) (N' := 18) (a0 := (18, .inl (fun _ => 0))) hx hb (hts _ ac_int) rfl (fun _ _ h => h) hK 0 rfl hP hD hS hA (fun _ => rfl) (by decide +kernel) (by decide +kernel) (by decide +kernel) (Nat.le_of_ble_eq_true rfl) (Nat.le_of_ble_eq_true rfl) dX7_init_12 (fun q1 H hP hD hS => ?_)
  have hP : va_P (dC, dI) vwCl ([(h0, .inr (7, [.int 4, .null, .null, .int 0, .null, .null, .null, .null, .null, .null, .null, .int 0, .null, .int 0, .int 0, .int 0]))] ++ ([(q1, .inl ((cs 0), 18, .inl (fun _ => 0)))])) H := hP
  have hD : va_D A ([(h0, .inr (7, [.int 4, .null, .null, .int 0, .null, .null, .null, .null, .null, .null, .null, .int 0, .null, .int 0, .int 0, .int 0]))] ++ ([(q1, .inl ((cs 0), 18, .inl (fun _ => 0)))])) := hD
  refine va_putF (D := (dC, dI)) (ci := 7) (v := .ref q1) (ty := .array .int) (C := RX7) (T := TX7) (N := 16) hx hb hts uwX7 tyX7 tyX7_ok nmX7 hown hK hP hD hS 0 rfl rfl 1 (by decide) (hts _ fl_X7_13) (fun _ h9 => h9) rfl hin rfl (by decide +kernel) rfl rfl (Nat.le_of_ble_eq_true rfl) dX7_init_14 (fun H locs hP hD hS => ?_)
  have hP : va_P (dC, dI) vwCl ([(h0, .inr (7, [.int 4, .ref q1, .null, .int 0, .null, .null, .null, .null, .null, .null, .null, .int 0, .null, .int 0, .int 0, .int 0]))] ++ ([(q1, .inl ((cs 0), 18, .inl (fun _ => 0)))])) H := hP
  have hD : va_D A ([(h0, .inr (7, [.int 4, .ref q1, .null, .int 0, .null, .null, .null, .null, .null, .null, .null, .int 0, .null, .int 0, .int 0, .int 0]))] ++ ([(q1, .inl ((cs 0), 18, .inl (fun _ => 0)))])) := hD
  refine lv_aload_n hx hb dX7_init_17 rfl (lv_at hl 0 rfl) ?_
  refine lv_bipush (v := (72 : Int32)) hx hb dX7_init_18 (by decide) ?_
  refine nwa (atype := .int) (N' := 72) (a0 := (72, .inl (fun _ => 0))) hx hb (hts _ ac_int) rfl (fun _ _ h => h) hK 0 rfl hP hD hS hA (fun _ => rfl) (by decide +kernel) (by decide +kernel) (by decide +kernel) (Nat.le_of_ble_eq_true rfl) (Nat.le_of_ble_eq_true rfl) dX7_init_20 (fun q2 H hP hD hS => ?_)
  have hP : va_P (dC, dI) vwCl ([(h0, .inr (7, [.int 4, .ref q1, .null, .int 0, .null, .null, .null, .null, .null, .null, .null, .int 0, .null, .int 0, .int 0, .int 0]))] ++ ([(q1, .inl ((cs 0), 18, .inl (fun _ => 0)))] ++ ([(q2, .inl ((cs 0), 72, .inl (fun _ => 0)))]))) H := hP
  have hD : va_D A ([(h0, .inr (7, [.int 4, .ref q1, .null, .int 0, .null, .null, .null, .null, .null, .null, .null, .int 0, .null, .int 0, .int 0, .int 0]))] ++ ([(q1, .inl ((cs 0), 18, .inl (fun _ => 0)))] ++ ([(q2, .inl ((cs 0), 72, .inl (fun _ => 0)))]))) := hD
  refine va_putF (D := (dC, dI)) (ci := 7) (v := .ref q2) (ty := .array .int) (C := RX7) (T := TX7) (N := 16) hx hb hts uwX7 tyX7 tyX7_ok nmX7 hown hK hP hD hS 0 rfl rfl 2 (by decide) (hts _ fl_X7_17) (fun _ h9 => h9) rfl hin rfl (by decide +kernel) rfl rfl (Nat.le_of_ble_eq_true rfl) dX7_init_22 (fun H locs hP hD hS => ?_)
  have hP : va_P (dC, dI) vwCl ([(h0, .inr (7, [.int 4, .ref q1, .ref q2, .int 0, .null, .null, .null, .null, .null, .null, .null, .int 0, .null, .int 0, .int 0, .int 0]))] ++ ([(q1, .inl ((cs 0), 18, .inl (fun _ => 0)))] ++ ([(q2, .inl ((cs 0), 72, .inl (fun _ => 0)))]))) H := hP
  have hD : va_D A ([(h0, .inr (7, [.int 4, .ref q1, .ref q2, .int 0, .null, .null, .null, .null, .null, .null, .null, .int 0, .null, .int 0, .int 0, .int 0]))] ++ ([(q1, .inl ((cs 0), 18, .inl (fun _ => 0)))] ++ ([(q2, .inl ((cs 0), 72, .inl (fun _ => 0)))]))) := hD
  refine lv_aload_n hx hb dX7_init_25 rfl (lv_at hl 0 rfl) ?_
  refine lv_iconst (v := (2 : Int32)) hx hb dX7_init_26 (by decide) ?_
  refine va_put (D := (dC, dI)) (ci := 7) (v := .int 2) (ty := .int) (C := RX7) (T := TX7) (N := 16) hx hb hts uwX7 tyX7 tyX7_ok nmX7 hown hK hP hD hS 0 rfl rfl 3 (by decide) (hts _ fl_X7_20) (fun _ h9 => h9) rfl (by decide +kernel) rfl rfl (Nat.le_of_ble_eq_true rfl) dX7_init_27 (fun H locs hP hD hS => ?_)
  have hP : va_P (dC, dI) vwCl ([(h0, .inr (7, [.int 4, .ref q1, .ref q2, .int 2, .null, .null, .null, .null, .null, .null, .null, .int 0, .null, .int 0, .int 0, .int 0]))] ++ ([(q1, .inl ((cs 0), 18, .inl (fun _ => 0)))] ++ ([(q2, .inl ((cs 0), 72, .inl (fun _ => 0)))]))) H := hP
  have hD : va_D A ([(h0, .inr (7, [.int 4, .ref q1, .ref q2, .int 2, .null, .null, .null, .null, .null, .null, .null, .int 0, .null, .int 0, .int 0, .int 0]))] ++ ([(q1, .inl ((cs 0), 18, .inl (fun _ => 0)))] ++ ([(q2, .inl ((cs 0), 72, .inl (fun _ => 0)))]))) := hD
  refine lv_aload_n hx hb dX7_init_30 rfl (lv_at hl 0 rfl) ?_
  refine lv_sipush (v := (324 : Int32)) hx hb dX7_init_31 (by decide) ?_
  refine nwa (atype := .int) (N' := 324) (a0 := (324, .inl (fun _ => 0))) hx hb (hts _ ac_int) rfl (fun _ _ h => h) hK 0 rfl hP hD hS hA (fun _ => rfl) (by decide +kernel) (by decide +kernel) (by decide +kernel) (Nat.le_of_ble_eq_true rfl) (Nat.le_of_ble_eq_true rfl) dX7_init_34 (fun q3 H hP hD hS => ?_)
  have hP : va_P (dC, dI) vwCl ([(h0, .inr (7, [.int 4, .ref q1, .ref q2, .int 2, .null, .null, .null, .null, .null, .null, .null, .int 0, .null, .int 0, .int 0, .int 0]))] ++ ([(q1, .inl ((cs 0), 18, .inl (fun _ => 0)))] ++ ([(q2, .inl ((cs 0), 72, .inl (fun _ => 0)))] ++ ([(q3, .inl ((cs 0), 324, .inl (fun _ => 0)))])))) H := hP
  have hD : va_D A ([(h0, .inr (7, [.int 4, .ref q1, .ref q2, .int 2, .null, .null, .null, .null, .null, .null, .null, .int 0, .null, .int 0, .int 0, .int 0]))] ++ ([(q1, .inl ((cs 0), 18, .inl (fun _ => 0)))] ++ ([(q2, .inl ((cs 0), 72, .inl (fun _ => 0)))] ++ ([(q3, .inl ((cs 0), 324, .inl (fun _ => 0)))])))) := hD
  refine va_putF (D := (dC, dI)) (ci := 7) (v := .ref q3) (ty := .array .int) (C := RX7) (T := TX7) (N := 16) hx hb hts uwX7 tyX7 tyX7_ok nmX7 hown hK hP hD hS 0 rfl rfl 4 (by decide) (hts _ fl_X7_23) (fun _ h9 => h9) rfl hin rfl (by decide +kernel) rfl rfl (Nat.le_of_ble_eq_true rfl) dX7_init_36 (fun H locs hP hD hS => ?_)
  have hP : va_P (dC, dI) vwCl ([(h0, .inr (7, [.int 4, .ref q1, .ref q2, .int 2, .ref q3, .null, .null, .null, .null, .null, .null, .int 0, .null, .int 0, .int 0, .int 0]))] ++ ([(q1, .inl ((cs 0), 18, .inl (fun _ => 0)))] ++ ([(q2, .inl ((cs 0), 72, .inl (fun _ => 0)))] ++ ([(q3, .inl ((cs 0), 324, .inl (fun _ => 0)))])))) H := hP
  have hD : va_D A ([(h0, .inr (7, [.int 4, .ref q1, .ref q2, .int 2, .ref q3, .null, .null, .null, .null, .null, .null, .int 0, .null, .int 0, .int 0, .int 0]))] ++ ([(q1, .inl ((cs 0), 18, .inl (fun _ => 0)))] ++ ([(q2, .inl ((cs 0), 72, .inl (fun _ => 0)))] ++ ([(q3, .inl ((cs 0), 324, .inl (fun _ => 0)))])))) := hD
  refine lv_aload_n hx hb dX7_init_39 rfl (lv_at hl 0 rfl) ?_
  refine lv_bipush (v := (18 : Int32)) hx hb dX7_init_40 (by decide) ?_
  refine nwa (atype := .int) (N' := 18) (a0 := (18, .inl (fun _ => 0))) hx hb (hts _ ac_int) rfl (fun _ _ h => h) hK 0 rfl hP hD hS hA (fun _ => rfl) (by decide +kernel) (by decide +kernel) (by decide +kernel) (Nat.le_of_ble_eq_true rfl) (Nat.le_of_ble_eq_true rfl) dX7_init_42 (fun q4 H hP hD hS => ?_)
  have hP : va_P (dC, dI) vwCl ([(h0, .inr (7, [.int 4, .ref q1, .ref q2, .int 2, .ref q3, .null, .null, .null, .null, .null, .null, .int 0, .null, .int 0, .int 0, .int 0]))] ++ ([(q1, .inl ((cs 0), 18, .inl (fun _ => 0)))] ++ ([(q2, .inl ((cs 0), 72, .inl (fun _ => 0)))] ++ ([(q3, .inl ((cs 0), 324, .inl (fun _ => 0)))] ++ ([(q4, .inl ((cs 0), 18, .inl (fun _ => 0)))]))))) H := hP
  have hD : va_D A ([(h0, .inr (7, [.int 4, .ref q1, .ref q2, .int 2, .ref q3, .null, .null, .null, .null, .null, .null, .int 0, .null, .int 0, .int 0, .int 0]))] ++ ([(q1, .inl ((cs 0), 18, .inl (fun _ => 0)))] ++ ([(q2, .inl ((cs 0), 72, .inl (fun _ => 0)))] ++ ([(q3, .inl ((cs 0), 324, .inl (fun _ => 0)))] ++ ([(q4, .inl ((cs 0), 18, .inl (fun _ => 0)))]))))) := hD
  refine va_putF (D := (dC, dI)) (ci := 7) (v := .ref q4) (ty := .array .int) (C := RX7) (T := TX7) (N := 16) hx hb hts uwX7 tyX7 tyX7_ok nmX7 hown hK hP hD hS 0 rfl rfl 5 (by decide) (hts _ fl_X7_26) (fun _ h9 => h9) rfl hin rfl (by decide +kernel) rfl rfl (Nat.le_of_ble_eq_true rfl) dX7_init_44 (fun H locs hP hD hS => ?_)
  have hP : va_P (dC, dI) vwCl ([(h0, .inr (7, [.int 4, .ref q1, .ref q2, .int 2, .ref q3, .ref q4, .null, .null, .null, .null, .null, .int 0, .null, .int 0, .int 0, .int 0]))] ++ ([(q1, .inl ((cs 0), 18, .inl (fun _ => 0)))] ++ ([(q2, .inl ((cs 0), 72, .inl (fun _ => 0)))] ++ ([(q3, .inl ((cs 0), 324, .inl (fun _ => 0)))] ++ ([(q4, .inl ((cs 0), 18, .inl (fun _ => 0)))]))))) H := hP
  have hD : va_D A ([(h0, .inr (7, [.int 4, .ref q1, .ref q2, .int 2, .ref q3, .ref q4, .null, .null, .null, .null, .null, .int 0, .null, .int 0, .int 0, .int 0]))] ++ ([(q1, .inl ((cs 0), 18, .inl (fun _ => 0)))] ++ ([(q2, .inl ((cs 0), 72, .inl (fun _ => 0)))] ++ ([(q3, .inl ((cs 0), 324, .inl (fun _ => 0)))] ++ ([(q4, .inl ((cs 0), 18, .inl (fun _ => 0)))]))))) := hD
  refine lv_aload_n hx hb dX7_init_47 rfl (lv_at hl 0 rfl) ?_
  refine lv_bipush (v := (18 : Int32)) hx hb dX7_init_48 (by decide) ?_
  refine nwa (atype := .int) (N' := 18) (a0 := (18, .inl (fun _ => 0))) hx hb (hts _ ac_int) rfl (fun _ _ h => h) hK 0 rfl hP hD hS hA (fun _ => rfl) (by decide +kernel) (by decide +kernel) (by decide +kernel) (Nat.le_of_ble_eq_true rfl) (Nat.le_of_ble_eq_true rfl) dX7_init_50 (fun q5 H hP hD hS => ?_)
  have hP : va_P (dC, dI) vwCl ([(h0, .inr (7, [.int 4, .ref q1, .ref q2, .int 2, .ref q3, .ref q4, .null, .null, .null, .null, .null, .int 0, .null, .int 0, .int 0, .int 0]))] ++ ([(q1, .inl ((cs 0), 18, .inl (fun _ => 0)))] ++ ([(q2, .inl ((cs 0), 72, .inl (fun _ => 0)))] ++ ([(q3, .inl ((cs 0), 324, .inl (fun _ => 0)))] ++ ([(q4, .inl ((cs 0), 18, .inl (fun _ => 0)))] ++ ([(q5, .inl ((cs 0), 18, .inl (fun _ => 0)))])))))) H := hP
  have hD : va_D A ([(h0, .inr (7, [.int 4, .ref q1, .ref q2, .int 2, .ref q3, .ref q4, .null, .null, .null, .null, .null, .int 0, .null, .int 0, .int 0, .int 0]))] ++ ([(q1, .inl ((cs 0), 18, .inl (fun _ => 0)))] ++ ([(q2, .inl ((cs 0), 72, .inl (fun _ => 0)))] ++ ([(q3, .inl ((cs 0), 324, .inl (fun _ => 0)))] ++ ([(q4, .inl ((cs 0), 18, .inl (fun _ => 0)))] ++ ([(q5, .inl ((cs 0), 18, .inl (fun _ => 0)))])))))) := hD
  refine va_putF (D := (dC, dI)) (ci := 7) (v := .ref q5) (ty := .array .int) (C := RX7) (T := TX7) (N := 16) hx hb hts uwX7 tyX7 tyX7_ok nmX7 hown hK hP hD hS 0 rfl rfl 6 (by decide) (hts _ fl_X7_29) (fun _ h9 => h9) rfl hin rfl (by decide +kernel) rfl rfl (Nat.le_of_ble_eq_true rfl) dX7_init_52 (fun H locs hP hD hS => ?_)
  have hP : va_P (dC, dI) vwCl ([(h0, .inr (7, [.int 4, .ref q1, .ref q2, .int 2, .ref q3, .ref q4, .ref q5, .null, .null, .null, .null, .int 0, .null, .int 0, .int 0, .int 0]))] ++ ([(q1, .inl ((cs 0), 18, .inl (fun _ => 0)))] ++ ([(q2, .inl ((cs 0), 72, .inl (fun _ => 0)))] ++ ([(q3, .inl ((cs 0), 324, .inl (fun _ => 0)))] ++ ([(q4, .inl ((cs 0), 18, .inl (fun _ => 0)))] ++ ([(q5, .inl ((cs 0), 18, .inl (fun _ => 0)))])))))) H := hP
  have hD : va_D A ([(h0, .inr (7, [.int 4, .ref q1, .ref q2, .int 2, .ref q3, .ref q4, .ref q5, .null, .null, .null, .null, .int 0, .null, .int 0, .int 0, .int 0]))] ++ ([(q1, .inl ((cs 0), 18, .inl (fun _ => 0)))] ++ ([(q2, .inl ((cs 0), 72, .inl (fun _ => 0)))] ++ ([(q3, .inl ((cs 0), 324, .inl (fun _ => 0)))] ++ ([(q4, .inl ((cs 0), 18, .inl (fun _ => 0)))] ++ ([(q5, .inl ((cs 0), 18, .inl (fun _ => 0)))])))))) := hD
  refine lv_aload_n hx hb dX7_init_55 rfl (lv_at hl 0 rfl) ?_
  refine lv_sipush (v := (211 : Int32)) hx hb dX7_init_56 (by decide) ?_
  refine nwa (atype := .long) (N' := 211) (a0 := (211, .inr (.inl (fun _ => 0)))) hx hb (hts _ ac_long) rfl (fun _ _ h => h) hK 1 rfl hP hD hS hA (fun _ => rfl) (by decide +kernel) (by decide +kernel) (by decide +kernel) (Nat.le_of_ble_eq_true rfl) (Nat.le_of_ble_eq_true rfl) dX7_init_59 (fun q6 H hP hD hS => ?_)
  have hP : va_P (dC, dI) vwCl ([(h0, .inr (7, [.int 4, .ref q1, .ref q2, .int 2, .ref q3, .ref q4, .ref q5, .null, .null, .null, .null, .int 0, .null, .int 0, .int 0, .int 0]))] ++ ([(q1, .inl ((cs 0), 18, .inl (fun _ => 0)))] ++ ([(q2, .inl ((cs 0), 72, .inl (fun _ => 0)))] ++ ([(q3, .inl ((cs 0), 324, .inl (fun _ => 0)))] ++ ([(q4, .inl ((cs 0), 18, .inl (fun _ => 0)))] ++ ([(q5, .inl ((cs 0), 18, .inl (fun _ => 0)))] ++ ([(q6, .inl ((cs 1), 211, .inr (.inl (fun _ => 0))))]))))))) H := hP
  have hD : va_D A ([(h0, .inr (7, [.int 4, .ref q1, .ref q2, .int 2, .ref q3, .ref q4, .ref q5, .null, .null, .null, .null, .int 0, .null, .int 0, .int 0, .int 0]))] ++ ([(q1, .inl ((cs 0), 18, .inl (fun _ => 0)))] ++ ([(q2, .inl ((cs 0), 72, .inl (fun _ => 0)))] ++ ([(q3, .inl ((cs 0), 324, .inl (fun _ => 0)))] ++ ([(q4, .inl ((cs 0), 18, .inl (fun _ => 0)))] ++ ([(q5, .inl ((cs 0), 18, .inl (fun _ => 0)))] ++ ([(q6, .inl ((cs 1), 211, .inr (.inl (fun _ => 0))))]))))))) := hD
  refine va_putF (D := (dC, dI)) (ci := 7) (v := .ref q6) (ty := .array .long) (C := RX7) (T := TX7) (N := 16) hx hb hts uwX7 tyX7 tyX7_ok nmX7 hown hK hP hD hS 0 rfl rfl 7 (by decide) (hts _ fl_X7_32) (fun _ h9 => h9) rfl hin rfl (by decide +kernel) rfl rfl (Nat.le_of_ble_eq_true rfl) dX7_init_61 (fun H locs hP hD hS => ?_)
  have hP : va_P (dC, dI) vwCl ([(h0, .inr (7, [.int 4, .ref q1, .ref q2, .int 2, .ref q3, .ref q4, .ref q5, .ref q6, .null, .null, .null, .int 0, .null, .int 0, .int 0, .int 0]))] ++ ([(q1, .inl ((cs 0), 18, .inl (fun _ => 0)))] ++ ([(q2, .inl ((cs 0), 72, .inl (fun _ => 0)))] ++ ([(q3, .inl ((cs 0), 324, .inl (fun _ => 0)))] ++ ([(q4, .inl ((cs 0), 18, .inl (fun _ => 0)))] ++ ([(q5, .inl ((cs 0), 18, .inl (fun _ => 0)))] ++ ([(q6, .inl ((cs 1), 211, .inr (.inl (fun _ => 0))))]))))))) H := hP
  have hD : va_D A ([(h0, .inr (7, [.int 4, .ref q1, .ref q2, .int 2, .ref q3, .ref q4, .ref q5, .ref q6, .null, .null, .null, .int 0, .null, .int 0, .int 0, .int 0]))] ++ ([(q1, .inl ((cs 0), 18, .inl (fun _ => 0)))] ++ ([(q2, .inl ((cs 0), 72, .inl (fun _ => 0)))] ++ ([(q3, .inl ((cs 0), 324, .inl (fun _ => 0)))] ++ ([(q4, .inl ((cs 0), 18, .inl (fun _ => 0)))] ++ ([(q5, .inl ((cs 0), 18, .inl (fun _ => 0)))] ++ ([(q6, .inl ((cs 1), 211, .inr (.inl (fun _ => 0))))]))))))) := hD
  refine lv_aload_n hx hb dX7_init_64 rfl (lv_at hl 0 rfl) ?_
  refine lv_sipush (v := (211 : Int32)) hx hb dX7_init_65 (by decide) ?_
  refine nwa (atype := .long) (N' := 211) (a0 := (211, .inr (.inl (fun _ => 0)))) hx hb (hts _ ac_long) rfl (fun _ _ h => h) hK 1 rfl hP hD hS hA (fun _ => rfl) (by decide +kernel) (by decide +kernel) (by decide +kernel) (Nat.le_of_ble_eq_true rfl) (Nat.le_of_ble_eq_true rfl) dX7_init_68 (fun q7 H hP hD hS => ?_)
  have hP : va_P (dC, dI) vwCl ([(h0, .inr (7, [.int 4, .ref q1, .ref q2, .int 2, .ref q3, .ref q4, .ref q5, .ref q6, .null, .null, .null, .int 0, .null, .int 0, .int 0, .int 0]))] ++ ([(q1, .inl ((cs 0), 18, .inl (fun _ => 0)))] ++ ([(q2, .inl ((cs 0), 72, .inl (fun _ => 0)))] ++ ([(q3, .inl ((cs 0), 324, .inl (fun _ => 0)))] ++ ([(q4, .inl ((cs 0), 18, .inl (fun _ => 0)))] ++ ([(q5, .inl ((cs 0), 18, .inl (fun _ => 0)))] ++ ([(q6, .inl ((cs 1), 211, .inr (.inl (fun _ => 0))))] ++ ([(q7, .inl ((cs 1), 211, .inr (.inl (fun _ => 0))))])))))))) H := hP
  have hD : va_D A ([(h0, .inr (7, [.int 4, .ref q1, .ref q2, .int 2, .ref q3, .ref q4, .ref q5, .ref q6, .null, .null, .null, .int 0, .null, .int 0, .int 0, .int 0]))] ++ ([(q1, .inl ((cs 0), 18, .inl (fun _ => 0)))] ++ ([(q2, .inl ((cs 0), 72, .inl (fun _ => 0)))] ++ ([(q3, .inl ((cs 0), 324, .inl (fun _ => 0)))] ++ ([(q4, .inl ((cs 0), 18, .inl (fun _ => 0)))] ++ ([(q5, .inl ((cs 0), 18, .inl (fun _ => 0)))] ++ ([(q6, .inl ((cs 1), 211, .inr (.inl (fun _ => 0))))] ++ ([(q7, .inl ((cs 1), 211, .inr (.inl (fun _ => 0))))])))))))) := hD
  refine va_putF (D := (dC, dI)) (ci := 7) (v := .ref q7) (ty := .array .long) (C := RX7) (T := TX7) (N := 16) hx hb hts uwX7 tyX7 tyX7_ok nmX7 hown hK hP hD hS 0 rfl rfl 8 (by decide) (hts _ fl_X7_36) (fun _ h9 => h9) rfl hin rfl (by decide +kernel) rfl rfl (Nat.le_of_ble_eq_true rfl) dX7_init_70 (fun H locs hP hD hS => ?_)
  have hP : va_P (dC, dI) vwCl ([(h0, .inr (7, [.int 4, .ref q1, .ref q2, .int 2, .ref q3, .ref q4, .ref q5, .ref q6, .ref q7, .null, .null, .int 0, .null, .int 0, .int 0, .int 0]))] ++ ([(q1, .inl ((cs 0), 18, .inl (fun _ => 0)))] ++ ([(q2, .inl ((cs 0), 72, .inl (fun _ => 0)))] ++ ([(q3, .inl ((cs 0), 324, .inl (fun _ => 0)))] ++ ([(q4, .inl ((cs 0), 18, .inl (fun _ => 0)))] ++ ([(q5, .inl ((cs 0), 18, .inl (fun _ => 0)))] ++ ([(q6, .inl ((cs 1), 211, .inr (.inl (fun _ => 0))))] ++ ([(q7, .inl ((cs 1), 211, .inr (.inl (fun _ => 0))))])))))))) H := hP
  have hD : va_D A ([(h0, .inr (7, [.int 4, .ref q1, .ref q2, .int 2, .ref q3, .ref q4, .ref q5, .ref q6, .ref q7, .null, .null, .int 0, .null, .int 0, .int 0, .int 0]))] ++ ([(q1, .inl ((cs 0), 18, .inl (fun _ => 0)))] ++ ([(q2, .inl ((cs 0), 72, .inl (fun _ => 0)))] ++ ([(q3, .inl ((cs 0), 324, .inl (fun _ => 0)))] ++ ([(q4, .inl ((cs 0), 18, .inl (fun _ => 0)))] ++ ([(q5, .inl ((cs 0), 18, .inl (fun _ => 0)))] ++ ([(q6, .inl ((cs 1), 211, .inr (.inl (fun _ => 0))))] ++ ([(q7, .inl ((cs 1), 211, .inr (.inl (fun _ => 0))))])))))))) := hD
  refine lv_aload_n hx hb dX7_init_73 rfl (lv_at hl 0 rfl) ?_
  refine lv_bipush (v := (19 : Int32)) hx hb dX7_init_74 (by decide) ?_
  refine nwa (atype := .long) (N' := 19) (a0 := (19, .inr (.inl (fun _ => 0)))) hx hb (hts _ ac_long) rfl (fun _ _ h => h) hK 1 rfl hP hD hS hA (fun _ => rfl) (by decide +kernel) (by decide +kernel) (by decide +kernel) (Nat.le_of_ble_eq_true rfl) (Nat.le_of_ble_eq_true rfl) dX7_init_76 (fun q8 H hP hD hS => ?_)
  have hP : va_P (dC, dI) vwCl ([(h0, .inr (7, [.int 4, .ref q1, .ref q2, .int 2, .ref q3, .ref q4, .ref q5, .ref q6, .ref q7, .null, .null, .int 0, .null, .int 0, .int 0, .int 0]))] ++ ([(q1, .inl ((cs 0), 18, .inl (fun _ => 0)))] ++ ([(q2, .inl ((cs 0), 72, .inl (fun _ => 0)))] ++ ([(q3, .inl ((cs 0), 324, .inl (fun _ => 0)))] ++ ([(q4, .inl ((cs 0), 18, .inl (fun _ => 0)))] ++ ([(q5, .inl ((cs 0), 18, .inl (fun _ => 0)))] ++ ([(q6, .inl ((cs 1), 211, .inr (.inl (fun _ => 0))))] ++ ([(q7, .inl ((cs 1), 211, .inr (.inl (fun _ => 0))))] ++ ([(q8, .inl ((cs 1), 19, .inr (.inl (fun _ => 0))))]))))))))) H := hP
  have hD : va_D A ([(h0, .inr (7, [.int 4, .ref q1, .ref q2, .int 2, .ref q3, .ref q4, .ref q5, .ref q6, .ref q7, .null, .null, .int 0, .null, .int 0, .int 0, .int 0]))] ++ ([(q1, .inl ((cs 0), 18, .inl (fun _ => 0)))] ++ ([(q2, .inl ((cs 0), 72, .inl (fun _ => 0)))] ++ ([(q3, .inl ((cs 0), 324, .inl (fun _ => 0)))] ++ ([(q4, .inl ((cs 0), 18, .inl (fun _ => 0)))] ++ ([(q5, .inl ((cs 0), 18, .inl (fun _ => 0)))] ++ ([(q6, .inl ((cs 1), 211, .inr (.inl (fun _ => 0))))] ++ ([(q7, .inl ((cs 1), 211, .inr (.inl (fun _ => 0))))] ++ ([(q8, .inl ((cs 1), 19, .inr (.inl (fun _ => 0))))]))))))))) := hD
  refine va_putF (D := (dC, dI)) (ci := 7) (v := .ref q8) (ty := .array .long) (C := RX7) (T := TX7) (N := 16) hx hb hts uwX7 tyX7 tyX7_ok nmX7 hown hK hP hD hS 0 rfl rfl 9 (by decide) (hts _ fl_X7_39) (fun _ h9 => h9) rfl hin rfl (by decide +kernel) rfl rfl (Nat.le_of_ble_eq_true rfl) dX7_init_78 (fun H locs hP hD hS => ?_)
  have hP : va_P (dC, dI) vwCl ([(h0, .inr (7, [.int 4, .ref q1, .ref q2, .int 2, .ref q3, .ref q4, .ref q5, .ref q6, .ref q7, .ref q8, .null, .int 0, .null, .int 0, .int 0, .int 0]))] ++ ([(q1, .inl ((cs 0), 18, .inl (fun _ => 0)))] ++ ([(q2, .inl ((cs 0), 72, .inl (fun _ => 0)))] ++ ([(q3, .inl ((cs 0), 324, .inl (fun _ => 0)))] ++ ([(q4, .inl ((cs 0), 18, .inl (fun _ => 0)))] ++ ([(q5, .inl ((cs 0), 18, .inl (fun _ => 0)))] ++ ([(q6, .inl ((cs 1), 211, .inr (.inl (fun _ => 0))))] ++ ([(q7, .inl ((cs 1), 211, .inr (.inl (fun _ => 0))))] ++ ([(q8, .inl ((cs 1), 19, .inr (.inl (fun _ => 0))))]))))))))) H := hP
  have hD : va_D A ([(h0, .inr (7, [.int 4, .ref q1, .ref q2, .int 2, .ref q3, .ref q4, .ref q5, .ref q6, .ref q7, .ref q8, .null, .int 0, .null, .int 0, .int 0, .int 0]))] ++ ([(q1, .inl ((cs 0), 18, .inl (fun _ => 0)))] ++ ([(q2, .inl ((cs 0), 72, .inl (fun _ => 0)))] ++ ([(q3, .inl ((cs 0), 324, .inl (fun _ => 0)))] ++ ([(q4, .inl ((cs 0), 18, .inl (fun _ => 0)))] ++ ([(q5, .inl ((cs 0), 18, .inl (fun _ => 0)))] ++ ([(q6, .inl ((cs 1), 211, .inr (.inl (fun _ => 0))))] ++ ([(q7, .inl ((cs 1), 211, .inr (.inl (fun _ => 0))))] ++ ([(q8, .inl ((cs 1), 19, .inr (.inl (fun _ => 0))))]))))))))) := hD
  refine lv_aload_n hx hb dX7_init_81 rfl (lv_at hl 0 rfl) ?_
  refine lv_bipush (v := (18 : Int32)) hx hb dX7_init_82 (by decide) ?_
  refine nwa (atype := .int) (N' := 18) (a0 := (18, .inl (fun _ => 0))) hx hb (hts _ ac_int) rfl (fun _ _ h => h) hK 0 rfl hP hD hS hA (fun _ => rfl) (by decide +kernel) (by decide +kernel) (by decide +kernel) (Nat.le_of_ble_eq_true rfl) (Nat.le_of_ble_eq_true rfl) dX7_init_84 (fun q9 H hP hD hS => ?_)
  have hP : va_P (dC, dI) vwCl ([(h0, .inr (7, [.int 4, .ref q1, .ref q2, .int 2, .ref q3, .ref q4, .ref q5, .ref q6, .ref q7, .ref q8, .null, .int 0, .null, .int 0, .int 0, .int 0]))] ++ ([(q1, .inl ((cs 0), 18, .inl (fun _ => 0)))] ++ ([(q2, .inl ((cs 0), 72, .inl (fun _ => 0)))] ++ ([(q3, .inl ((cs 0), 324, .inl (fun _ => 0)))] ++ ([(q4, .inl ((cs 0), 18, .inl (fun _ => 0)))] ++ ([(q5, .inl ((cs 0), 18, .inl (fun _ => 0)))] ++ ([(q6, .inl ((cs 1), 211, .inr (.inl (fun _ => 0))))] ++ ([(q7, .inl ((cs 1), 211, .inr (.inl (fun _ => 0))))] ++ ([(q8, .inl ((cs 1), 19, .inr (.inl (fun _ => 0))))] ++ ([(q9, .inl ((cs 0), 18, .inl (fun _ => 0)))])))))))))) H := hP
  have hD : va_D A ([(h0, .inr (7, [.int 4, .ref q1, .ref q2, .int 2, .ref q3, .ref q4, .ref q5, .ref q6, .ref q7, .ref q8, .null, .int 0, .null, .int 0, .int 0, .int 0]))] ++ ([(q1, .inl ((cs 0), 18, .inl (fun _ => 0)))] ++ ([(q2, .inl ((cs 0), 72, .inl (fun _ => 0)))] ++ ([(q3, .inl ((cs 0), 324, .inl (fun _ => 0)))] ++ ([(q4, .inl ((cs 0), 18, .inl (fun _ => 0)))] ++ ([(q5, .inl ((cs 0), 18, .inl (fun _ => 0)))] ++ ([(q6, .inl ((cs 1), 211, .inr (.inl (fun _ => 0))))] ++ ([(q7, .inl ((cs 1), 211, .inr (.inl (fun _ => 0))))] ++ ([(q8, .inl ((cs 1), 19, .inr (.inl (fun _ => 0))))] ++ ([(q9, .inl ((cs 0), 18, .inl (fun _ => 0)))])))))))))) := hD
  refine va_putF (D := (dC, dI)) (ci := 7) (v := .ref q9) (ty := .array .int) (C := RX7) (T := TX7) (N := 16) hx hb hts uwX7 tyX7 tyX7_ok nmX7 hown hK hP hD hS 0 rfl rfl 10 (by decide) (hts _ fl_X7_42) (fun _ h9 => h9) rfl hin rfl (by decide +kernel) rfl rfl (Nat.le_of_ble_eq_true rfl) dX7_init_86 (fun H locs hP hD hS => ?_)
  have hP : va_P (dC, dI) vwCl ([(h0, .inr (7, [.int 4, .ref q1, .ref q2, .int 2, .ref q3, .ref q4, .ref q5, .ref q6, .ref q7, .ref q8, .ref q9, .int 0, .null, .int 0, .int 0, .int 0]))] ++ ([(q1, .inl ((cs 0), 18, .inl (fun _ => 0)))] ++ ([(q2, .inl ((cs 0), 72, .inl (fun _ => 0)))] ++ ([(q3, .inl ((cs 0), 324, .inl (fun _ => 0)))] ++ ([(q4, .inl ((cs 0), 18, .inl (fun _ => 0)))] ++ ([(q5, .inl ((cs 0), 18, .inl (fun _ => 0)))] ++ ([(q6, .inl ((cs 1), 211, .inr (.inl (fun _ => 0))))] ++ ([(q7, .inl ((cs 1), 211, .inr (.inl (fun _ => 0))))] ++ ([(q8, .inl ((cs 1), 19, .inr (.inl (fun _ => 0))))] ++ ([(q9, .inl ((cs 0), 18, .inl (fun _ => 0)))])))))))))) H := hP
  have hD : va_D A ([(h0, .inr (7, [.int 4, .ref q1, .ref q2, .int 2, .ref q3, .ref q4, .ref q5, .ref q6, .ref q7, .ref q8, .ref q9, .int 0, .null, .int 0, .int 0, .int 0]))] ++ ([(q1, .inl ((cs 0), 18, .inl (fun _ => 0)))] ++ ([(q2, .inl ((cs 0), 72, .inl (fun _ => 0)))] ++ ([(q3, .inl ((cs 0), 324, .inl (fun _ => 0)))] ++ ([(q4, .inl ((cs 0), 18, .inl (fun _ => 0)))] ++ ([(q5, .inl ((cs 0), 18, .inl (fun _ => 0)))] ++ ([(q6, .inl ((cs 1), 211, .inr (.inl (fun _ => 0))))] ++ ([(q7, .inl ((cs 1), 211, .inr (.inl (fun _ => 0))))] ++ ([(q8, .inl ((cs 1), 19, .inr (.inl (fun _ => 0))))] ++ ([(q9, .inl ((cs 0), 18, .inl (fun _ => 0)))])))))))))) := hD
  refine lv_aload_n hx hb dX7_init_89 rfl (lv_at hl 0 rfl) ?_
  refine lv_sipush (v := (6859 : Int32)) hx hb dX7_init_90 (by decide) ?_
  refine nwa (atype := .long) (N' := 6859) (a0 := (6859, .inr (.inl (fun _ => 0)))) hx hb (hts _ ac_long) rfl (fun _ _ h => h) hK 1 rfl hP hD hS hA (fun _ => rfl) (by decide +kernel) (by decide +kernel) (by decide +kernel) (Nat.le_of_ble_eq_true rfl) (Nat.le_of_ble_eq_true rfl) dX7_init_93 (fun q10 H hP hD hS => ?_)
  have hP : va_P (dC, dI) vwCl ([(h0, .inr (7, [.int 4, .ref q1, .ref q2, .int 2, .ref q3, .ref q4, .ref q5, .ref q6, .ref q7, .ref q8, .ref q9, .int 0, .null, .int 0, .int 0, .int 0]))] ++ ([(q1, .inl ((cs 0), 18, .inl (fun _ => 0)))] ++ ([(q2, .inl ((cs 0), 72, .inl (fun _ => 0)))] ++ ([(q3, .inl ((cs 0), 324, .inl (fun _ => 0)))] ++ ([(q4, .inl ((cs 0), 18, .inl (fun _ => 0)))] ++ ([(q5, .inl ((cs 0), 18, .inl (fun _ => 0)))] ++ ([(q6, .inl ((cs 1), 211, .inr (.inl (fun _ => 0))))] ++ ([(q7, .inl ((cs 1), 211, .inr (.inl (fun _ => 0))))] ++ ([(q8, .inl ((cs 1), 19, .inr (.inl (fun _ => 0))))] ++ ([(q9, .inl ((cs 0), 18, .inl (fun _ => 0)))] ++ ([(q10, .inl ((cs 1), 6859, .inr (.inl (fun _ => 0))))]))))))))))) H := hP
  have hD : va_D A ([(h0, .inr (7, [.int 4, .ref q1, .ref q2, .int 2, .ref q3, .ref q4, .ref q5, .ref q6, .ref q7, .ref q8, .ref q9, .int 0, .null, .int 0, .int 0, .int 0]))] ++ ([(q1, .inl ((cs 0), 18, .inl (fun _ => 0)))] ++ ([(q2, .inl ((cs 0), 72, .inl (fun _ => 0)))] ++ ([(q3, .inl ((cs 0), 324, .inl (fun _ => 0)))] ++ ([(q4, .inl ((cs 0), 18, .inl (fun _ => 0)))] ++ ([(q5, .inl ((cs 0), 18, .inl (fun _ => 0)))] ++ ([(q6, .inl ((cs 1), 211, .inr (.inl (fun _ => 0))))] ++ ([(q7, .inl ((cs 1), 211, .inr (.inl (fun _ => 0))))] ++ ([(q8, .inl ((cs 1), 19, .inr (.inl (fun _ => 0))))] ++ ([(q9, .inl ((cs 0), 18, .inl (fun _ => 0)))] ++ ([(q10, .inl ((cs 1), 6859, .inr (.inl (fun _ => 0))))]))))))))))) := hD
  refine va_putF (D := (dC, dI)) (ci := 7) (v := .ref q10) (ty := .array .long) (C := RX7) (T := TX7) (N := 16) hx hb hts uwX7 tyX7 tyX7_ok nmX7 hown hK hP hD hS 0 rfl rfl 12 (by decide) (hts _ fl_X7_45) (fun _ h9 => h9) rfl hin rfl (by decide +kernel) rfl rfl (Nat.le_of_ble_eq_true rfl) dX7_init_95 (fun H locs hP hD hS => ?_)
  have hP : va_P (dC, dI) vwCl ([(h0, .inr (7, [.int 4, .ref q1, .ref q2, .int 2, .ref q3, .ref q4, .ref q5, .ref q6, .ref q7, .ref q8, .ref q9, .int 0, .ref q10, .int 0, .int 0, .int 0]))] ++ ([(q1, .inl ((cs 0), 18, .inl (fun _ => 0)))] ++ ([(q2, .inl ((cs 0), 72, .inl (fun _ => 0)))] ++ ([(q3, .inl ((cs 0), 324, .inl (fun _ => 0)))] ++ ([(q4, .inl ((cs 0), 18, .inl (fun _ => 0)))] ++ ([(q5, .inl ((cs 0), 18, .inl (fun _ => 0)))] ++ ([(q6, .inl ((cs 1), 211, .inr (.inl (fun _ => 0))))] ++ ([(q7, .inl ((cs 1), 211, .inr (.inl (fun _ => 0))))] ++ ([(q8, .inl ((cs 1), 19, .inr (.inl (fun _ => 0))))] ++ ([(q9, .inl ((cs 0), 18, .inl (fun _ => 0)))] ++ ([(q10, .inl ((cs 1), 6859, .inr (.inl (fun _ => 0))))]))))))))))) H := hP
  have hD : va_D A ([(h0, .inr (7, [.int 4, .ref q1, .ref q2, .int 2, .ref q3, .ref q4, .ref q5, .ref q6, .ref q7, .ref q8, .ref q9, .int 0, .ref q10, .int 0, .int 0, .int 0]))] ++ ([(q1, .inl ((cs 0), 18, .inl (fun _ => 0)))] ++ ([(q2, .inl ((cs 0), 72, .inl (fun _ => 0)))] ++ ([(q3, .inl ((cs 0), 324, .inl (fun _ => 0)))] ++ ([(q4, .inl ((cs 0), 18, .inl (fun _ => 0)))] ++ ([(q5, .inl ((cs 0), 18, .inl (fun _ => 0)))] ++ ([(q6, .inl ((cs 1), 211, .inr (.inl (fun _ => 0))))] ++ ([(q7, .inl ((cs 1), 211, .inr (.inl (fun _ => 0))))] ++ ([(q8, .inl ((cs 1), 19, .inr (.inl (fun _ => 0))))] ++ ([(q9, .inl ((cs 0), 18, .inl (fun _ => 0)))] ++ ([(q10, .inl ((cs 1), 6859, .inr (.inl (fun _ => 0))))]))))))))))) := hD
  have hP : va_P (dC, dI) vwCl (wX7 cs (fun k => ([h0, q1, q2, q3, q4, q5, q6, q7, q8, q9, q10] : List Nat).getD k 0) 4 (fun _ => 0) (fun _ => 0) 2 (fun _ => 0) (fun _ => 0) (fun _ => 0) (fun _ => 0) (fun _ => 0) (fun _ => 0) (fun _ => 0) 0 (fun _ => 0) 0 0 0) H := hP
  have hD : va_D A (wX7 cs (fun k => ([h0, q1, q2, q3, q4, q5, q6, q7, q8, q9, q10] : List Nat).getD k 0) 4 (fun _ => 0) (fun _ => 0) 2 (fun _ => 0) (fun _ => 0) (fun _ => 0) (fun _ => 0) (fun _ => 0) (fun _ => 0) (fun _ => 0) 0 (fun _ => 0) 0 0 0) := hD
  refine lv_aload_n hx hb dX7_init_98 rfl (lv_at hl 0 rfl) ?_
  refine swv (runV ⟨hx, hb, hml, hown, hts⟩ wf_X7_begin ml_X7_48 (c7_begin l dC dI cs (fun k => ([h0, q1, q2, q3, q4, q5, q6, q7, q8, q9, q10] : List Nat).getD k 0) _ 4 (fun _ => 0) (fun _ => 0) 2 (fun _ => 0) (fun _ => 0) (fun _ => 0) (fun _ => 0) (fun _ => 0) (fun _ => 0) (fun _ => 0) 0 (fun _ => 0) 0 0 0 hq) ⟨⟨rfl, rfl⟩, by decide, by decide⟩ (preW hP hK hN hD) hK hP rfl 0 rfl rfl hl.1 rfl (Nat.le_of_ble_eq_true rfl) dX7_init_99 ⟨(Nat.le_of_ble_eq_true rfl), (Nat.le_of_ble_eq_true rfl)⟩) hD hS hA (fun u1 H locs hq hP hD hS => ?_)
  obtain ⟨m_order_1, m_shelf_1, m_opens_1, m_listed_1⟩ := u1
  try dsimp only at hq
  have hP : va_P (dC, dI) vwCl (wX7 cs (fun k => ([h0, q1, q2, q3, q4, q5, q6, q7, q8, q9, q10] : List Nat).getD k 0) 4 m_order_1 m_shelf_1 m_opens_1 (fun _ => 0) m_listed_1 (fun _ => 0) (fun _ => 0) (fun _ => 0) (fun _ => 0) (fun _ => 0) 0 (fun _ => 0) 0 0 0) H := hP
  have hD : va_D A (wX7 cs (fun k => ([h0, q1, q2, q3, q4, q5, q6, q7, q8, q9, q10] : List Nat).getD k 0) 4 m_order_1 m_shelf_1 m_opens_1 (fun _ => 0) m_listed_1 (fun _ => 0) (fun _ => 0) (fun _ => 0) (fun _ => 0) (fun _ => 0) 0 (fun _ => 0) 0 0 0) := hD
  exact W.vret hx hb hr (fun t ht hW => ⟨⟨((fun k => ([h0, q1, q2, q3, q4, q5, q6, q7, q8, q9, q10] : List Nat).getD k 0), m_order_1, m_shelf_1, m_opens_1, m_listed_1), rfl, ⟨rfl, hq⟩, Bw_mk (by rw [ht]; exact hP) (va_K.moved hW.alike hK) hD⟩, hS.F ht⟩) hS.2.2 dX7_init_102
