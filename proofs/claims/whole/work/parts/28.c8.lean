set_option maxHeartbeats 4000000 in
set_option maxRecDepth 100000 in
theorem c5_waysWith (l : Launch) (dC : Nat → ClassId) (dI : Nat → Nat → Nat) (cs : Nat → ClassId) (aw : Nat → Nat) (at_ : Nat → Nat) (rr : Nat → Nat) (ru : Nat → Nat) (w_used : Nat → Int32) (w_kind : Int32) (w_size : Int32) (w_left : Int32) (w_last : Int32) (w_top : Int32) (w_wanted : Int32) (t_fac : Nat → Int64) (t_der : Nat → Int64) (t_rec : Nat → Nat → Int64) (t_rut : Nat → Nat → Int64) (t_ris : Nat → Int64) (a1 : Int32) (a2 : Int32) {Q : Int64 → Prop} (hq : q5_waysWith w_kind w_size w_left w_last w_top w_wanted t_fac t_rec t_ris a1 a2 Q) : Met l yX5_waysWith (.code yX5_waysWith cX5_waysWith 3 (some .long) :: gt) ({ frames := 3, cells := 0, slots := 0, locals := 71 } : Room) (va_Pc [.ref (aw 0), .int a1, .int a2] (Pr (dC, dI) (KA cs) ((wX5 cs aw at_ w_used w_kind w_size w_left w_last w_top w_wanted) ++ (wX3 cs at_ rr ru t_fac t_der t_rec t_rut t_ris)))) (vp_Sl Q) 0 0 (fun _ => False) := by
  refine Met.ofW (cc := cX5_waysWith) (maxL := 3) (ret := (some .long)) (by decide) rfl ?_
  intro p e s m args below meth c s₁ B hml hv
  obtain ⟨rfl, hP0, hK, hN⟩ := hv
  have hP := va_P_l hP0
  have hO := va_P_r hP0
  have hx := B.exec
  have hb := B.bytes
  have hr := B.returns
  have hts0 := atoms_spec (ws := (.code yX5_waysWith cX5_waysWith 3 (some .long) :: gt)) B.pre
  have hts : ∀ w ∈ gt, w.before _ s = true := fun w h => hts0 w (List.mem_cons_of_mem _ h)
  have hown : s.vm.findClass RX5 = some m.cls := findClass_of_methodNamed B.named
  have hlocks := B.notSynchronized
  have hl := lv_entry ([.ref (aw 0), .int a1, .int a2]) (n := 3) (Nat.le_of_ble_eq_true rfl)
  rw [lg_entry_eq]
  generalize (lg_sl ([.ref (aw 0), .int a1, .int a2]) ++ List.replicate (3 - (lg_sl ([.ref (aw 0), .int a1, .int a2])).length) Slot.unset).toArray = ls at hl ⊢
  have hl : lv_has ls 3 [(0, .ref (aw 0)), (1, .int a1), (2, .int a2)] := hl
  unfold q5_waysWith at hq
  refine lv_aload_n hx hb dX5_waysWith_0 rfl (lv_at hl 0 rfl) ?_
  refine lv_aload_n hx hb dX5_waysWith_1 rfl (lv_at hl 0 rfl) ?_
  refine va_get (D := (dC, dI)) (ci := 5) (v := .int w_left) (C := RX5) (T := TX5) (N := 8) hx hb hts uwX5 hown hK hP 0 rfl rfl 4 (by decide) (hts _ fl_X5_35) (fun _ h9 => h9) rfl dX5_waysWith_2 ?_
  refine lv_iconst (v := (1 : Int32)) hx hb dX5_waysWith_5 (by decide) ?_
  refine lv_isub hx hb dX5_waysWith_6 ?_
  refine lv_iload_n hx hb dX5_waysWith_7 rfl (lv_at hl 2 rfl) ?_
  refine lv_aload_n hx hb dX5_waysWith_8 rfl (lv_at hl 0 rfl) ?_
  refine va_get (D := (dC, dI)) (ci := 5) (v := .int w_size) (C := RX5) (T := TX5) (N := 8) hx hb hts uwX5 hown hK hP 0 rfl rfl 3 (by decide) (hts _ fl_X5_29) (fun _ h9 => h9) rfl dX5_waysWith_9 ?_
  refine lv_iconst (v := (1 : Int32)) hx hb dX5_waysWith_12 (by decide) ?_
  refine lv_isub hx hb dX5_waysWith_13 ?_
  refine lv_aload_n hx hb dX5_waysWith_14 rfl (lv_at hl 0 rfl) ?_
  refine va_get (D := (dC, dI)) (ci := 5) (v := .int w_top) (C := RX5) (T := TX5) (N := 8) hx hb hts uwX5 hown hK hP 0 rfl rfl 6 (by decide) (hts _ fl_X5_41) (fun _ h9 => h9) rfl dX5_waysWith_15 ?_
  refine lv_iload_n hx hb dX5_waysWith_18 rfl (lv_at hl 1 rfl) ?_
  refine va_mmax hx hb (hml.trans hl.1.symm) hown (hts _ ml_X5_69) (hts _ sm_J9_max) (hts _ in_J9) (hts _ cw_J9_max) (Nat.le_of_ble_eq_true rfl) (Nat.le_of_ble_eq_true rfl) (Nat.le_of_ble_eq_true rfl) (Nat.le_of_ble_eq_true rfl) dX5_waysWith_19 ?_
  refine lv_isub hx hb dX5_waysWith_22 ?_
  refine lv_aload_n hx hb dX5_waysWith_23 rfl (lv_at hl 0 rfl) ?_
  refine lv_iload_n hx hb dX5_waysWith_24 rfl (lv_at hl 1 rfl) ?_
  refine roi (runV ⟨hx, hb, hml, hown, hts⟩ wf_X5_wantedAfter ml_X5_72 (c5_wantedAfter l dC dI cs aw at_ rr ru w_used w_kind w_size w_left w_last w_top w_wanted t_fac t_der t_rec t_rut t_ris a1 hq) ⟨⟨rfl, rfl⟩, by decide, by decide⟩ (preR (va_P_app hP hO) hK hN) hK hP rfl 0 rfl rfl hl.1 rfl (Nat.le_of_ble_eq_true rfl) dX5_waysWith_25 ⟨(Nat.le_of_ble_eq_true rfl), (Nat.le_of_ble_eq_true rfl)⟩) (fun r3 hq => ?_)
  refine rol (runV ⟨hx, hb, hml, hown, hts⟩ wf_X5_ways ml_X5_44 (c5_ways l dC dI cs aw at_ rr ru w_used w_kind w_size w_left w_last w_top w_wanted t_fac t_der t_rec t_rut t_ris (w_left - (1 : Int32)) a2 ((w_size - (1 : Int32)) - (if w_top < a1 then a1 else w_top)) r3 hq) ⟨⟨rfl, rfl⟩, by decide, by decide⟩ (preR (va_P_app hP hO) hK hN) hK hP rfl 0 rfl rfl hl.1 rfl (Nat.le_of_ble_eq_true rfl) dX5_waysWith_28 ⟨(Nat.le_of_ble_eq_true rfl), (Nat.le_of_ble_eq_true rfl)⟩) (fun r4 hq => ?_)
  exact W.lret (v := r4) hx hb hr (fun t ht hW => ⟨r4, rfl, hq, ht⟩) (fun q h => absurd h List.not_mem_nil) dX5_waysWith_31
set_option maxHeartbeats 4000000 in
set_option maxRecDepth 100000 in
theorem c5_step (l : Launch) (dC : Nat → ClassId) (dI : Nat → Nat → Nat) (cs : Nat → ClassId) (aw : Nat → Nat) (at_ : Nat → Nat) (rr : Nat → Nat) (ru : Nat → Nat) (sz : Nat) (w_used : Nat → Int32) (w_kind : Int32) (w_size : Int32) (w_left : Int32) (w_last : Int32) (w_top : Int32) (w_wanted : Int32) (t_fac : Nat → Int64) (t_der : Nat → Int64) (t_rec : Nat → Nat → Int64) (t_rut : Nat → Nat → Int64) (t_ris : Nat → Int64) (a1 : Int32) {Q : (Nat → Int32) → Int32 → Int32 → Int32 → Int32 → Prop} (hq : q5_step w_kind w_used w_left w_last w_top w_wanted a1 Q) : Met l yX5_step (.code yX5_step cX5_step 2 none :: gt) ({ frames := 1, cells := 0, slots := 0, locals := 22 } : Room) (va_Pc [.ref (aw 0), .int a1] (Pw2 (dC, dI) (KA cs) (wX5 cs aw at_ w_used w_kind w_size w_left w_last w_top w_wanted) (wX3 cs at_ rr ru t_fac t_der t_rec t_rut t_ris) sz)) (va_Qv (fun (u : (Nat → Int32) × Int32 × Int32 × Int32 × Int32) => Q u.1 u.2.1 u.2.2.1 u.2.2.2.1 u.2.2.2.2) (Bw (dC, dI) (KA cs) (va_A (wX5 cs aw at_ w_used w_kind w_size w_left w_last w_top w_wanted) sz) (fun u : (Nat → Int32) × Int32 × Int32 × Int32 × Int32 => (wX5 cs aw at_ u.1 w_kind w_size u.2.1 u.2.2.1 u.2.2.2.1 u.2.2.2.2))) (va_A (wX5 cs aw at_ w_used w_kind w_size w_left w_last w_top w_wanted) sz)) 0 0 (va_A (wX5 cs aw at_ w_used w_kind w_size w_left w_last w_top w_wanted) sz) := by
  refine Met.ofW (cc := cX5_step) (maxL := 2) (ret := none) (by decide) rfl ?_
  intro p e s m args below meth c s₁ B hml hv
  obtain ⟨rfl, hsz, hP0, hK, hD1, hN⟩ := hv
  have hP := va_P_l hP0
  have hO := va_P_r hP0
  have hD0 := va_D_l hD1
  have hDO := va_D_r hD1
  have hx := B.exec
  have hb := B.bytes
  have hr := B.returns
  have hts0 := atoms_spec (ws := (.code yX5_step cX5_step 2 none :: gt)) B.pre
  have hts : ∀ w ∈ gt, w.before _ s = true := fun w h => hts0 w (List.mem_cons_of_mem _ h)
  have hown : s.vm.findClass RX5 = some m.cls := findClass_of_methodNamed B.named
  have hlocks := B.notSynchronized
  subst hsz
  have hD := hD0.self (sz := s.heap.size)
  have hNA := na_of hP0 hD1
  generalize hAe : va_A (wX5 cs aw at_ w_used w_kind w_size w_left w_last w_top w_wanted) s.heap.size = A at hD hNA ⊢
  have hA : ∀ q : Nat, s.heap.size ≤ q → A q := fun q h => by rw [← hAe]; exact Or.inr h
  have hS : va_S A s.heap s.heap [] := va_S.rf
  have hl := lv_entry ([.ref (aw 0), .int a1]) (n := 2) (Nat.le_of_ble_eq_true rfl)
  rw [lg_entry_eq]
  generalize (lg_sl ([.ref (aw 0), .int a1]) ++ List.replicate (2 - (lg_sl ([.ref (aw 0), .int a1])).length) Slot.unset).toArray = ls at hl ⊢
  have hl : lv_has ls 2 [(0, .ref (aw 0)), (1, .int a1)] := hl
  unfold q5_step at hq
  refine lv_aload_n hx hb dX5_step_0 rfl (lv_at hl 0 rfl) ?_
  refine lv_aload_n hx hb dX5_step_1 rfl (lv_at hl 0 rfl) ?_
  refine lv_iload_n hx hb dX5_step_2 rfl (lv_at hl 1 rfl) ?_
  refine roi (runV ⟨hx, hb, hml, hown, hts⟩ wf_X5_wantedAfter ml_X5_72 (c5_wantedAfter l dC dI cs aw at_ rr ru w_used w_kind w_size w_left w_last w_top w_wanted t_fac t_der t_rec t_rut t_ris a1 hq) ⟨⟨rfl, rfl⟩, by decide, by decide⟩ (preR (va_P_app hP (ro_at hO hNA hS)) hK hN) hK hP rfl 0 rfl rfl hl.1 rfl (Nat.le_of_ble_eq_true rfl) dX5_step_3 ⟨(Nat.le_of_ble_eq_true rfl), (Nat.le_of_ble_eq_true rfl)⟩) (fun r5 hq => ?_)
  refine va_put (D := (dC, dI)) (ci := 5) (v := .int r5) (ty := .int) (C := RX5) (T := TX5) (N := 8) hx hb hts uwX5 tyX5 tyX5_ok nmX5 hown hK hP hD hS 0 rfl rfl 7 (by decide) (hts _ fl_X5_32) (fun _ h9 => h9) rfl (by decide +kernel) rfl rfl (Nat.le_of_ble_eq_true rfl) dX5_step_6 (fun H locs hP hD hS => ?_)
  have hP : va_P (dC, dI) vwCl (wX5 cs aw at_ w_used w_kind w_size w_left w_last w_top r5) H := hP
  have hD : va_D A (wX5 cs aw at_ w_used w_kind w_size w_left w_last w_top r5) := hD
  refine lv_aload_n hx hb dX5_step_9 rfl (lv_at hl 0 rfl) ?_
  refine lv_iload_n hx hb dX5_step_10 rfl (lv_at hl 1 rfl) ?_
  refine va_put (D := (dC, dI)) (ci := 5) (v := .int a1) (ty := .int) (C := RX5) (T := TX5) (N := 8) hx hb hts uwX5 tyX5 tyX5_ok nmX5 hown hK hP hD hS 0 rfl rfl 5 (by decide) (hts _ fl_X5_38) (fun _ h9 => h9) rfl (by decide +kernel) rfl rfl (Nat.le_of_ble_eq_true rfl) dX5_step_11 (fun H locs hP hD hS => ?_)
  have hP : va_P (dC, dI) vwCl (wX5 cs aw at_ w_used w_kind w_size w_left a1 w_top r5) H := hP
  have hD : va_D A (wX5 cs aw at_ w_used w_kind w_size w_left a1 w_top r5) := hD
  refine lv_aload_n hx hb dX5_step_14 rfl (lv_at hl 0 rfl) ?_
  refine lv_aload_n hx hb dX5_step_15 rfl (lv_at hl 0 rfl) ?_
  refine va_get (D := (dC, dI)) (ci := 5) (v := .int w_top) (C := RX5) (T := TX5) (N := 8) hx hb hts uwX5 hown hK hP 0 rfl rfl 6 (by decide) (hts _ fl_X5_41) (fun _ h9 => h9) rfl dX5_step_16 ?_
  refine lv_iload_n hx hb dX5_step_19 rfl (lv_at hl 1 rfl) ?_
  refine va_mmax hx hb (hml.trans hl.1.symm) hown (hts _ ml_X5_69) (hts _ sm_J9_max) (hts _ in_J9) (hts _ cw_J9_max) (Nat.le_of_ble_eq_true rfl) (Nat.le_of_ble_eq_true rfl) (Nat.le_of_ble_eq_true rfl) (Nat.le_of_ble_eq_true rfl) dX5_step_20 ?_
  refine va_put (D := (dC, dI)) (ci := 5) (v := .int (if w_top < a1 then a1 else w_top)) (ty := .int) (C := RX5) (T := TX5) (N := 8) hx hb hts uwX5 tyX5 tyX5_ok nmX5 hown hK hP hD hS 0 rfl rfl 6 (by decide) (hts _ fl_X5_41) (fun _ h9 => h9) rfl (by decide +kernel) rfl rfl (Nat.le_of_ble_eq_true rfl) dX5_step_23 (fun H locs hP hD hS => ?_)
  have hP : va_P (dC, dI) vwCl (wX5 cs aw at_ w_used w_kind w_size w_left a1 (if w_top < a1 then a1 else w_top) r5) H := hP
  have hD : va_D A (wX5 cs aw at_ w_used w_kind w_size w_left a1 (if w_top < a1 then a1 else w_top) r5) := hD
  refine lv_aload_n hx hb dX5_step_26 rfl (lv_at hl 0 rfl) ?_
  refine lv_dup hx hb dX5_step_27 rfl ?_
  refine va_get (D := (dC, dI)) (ci := 5) (v := .int w_left) (C := RX5) (T := TX5) (N := 8) hx hb hts uwX5 hown hK hP 0 rfl rfl 4 (by decide) (hts _ fl_X5_35) (fun _ h9 => h9) rfl dX5_step_28 ?_
  refine lv_iconst (v := (1 : Int32)) hx hb dX5_step_31 (by decide) ?_
  refine lv_isub hx hb dX5_step_32 ?_
  refine va_put (D := (dC, dI)) (ci := 5) (v := .int (w_left - (1 : Int32))) (ty := .int) (C := RX5) (T := TX5) (N := 8) hx hb hts uwX5 tyX5 tyX5_ok nmX5 hown hK hP hD hS 0 rfl rfl 4 (by decide) (hts _ fl_X5_35) (fun _ h9 => h9) rfl (by decide +kernel) rfl rfl (Nat.le_of_ble_eq_true rfl) dX5_step_33 (fun H locs hP hD hS => ?_)
  have hP : va_P (dC, dI) vwCl (wX5 cs aw at_ w_used w_kind w_size (w_left - (1 : Int32)) a1 (if w_top < a1 then a1 else w_top) r5) H := hP
  have hD : va_D A (wX5 cs aw at_ w_used w_kind w_size (w_left - (1 : Int32)) a1 (if w_top < a1 then a1 else w_top) r5) := hD
  refine lv_iload_n hx hb dX5_step_36 rfl (lv_at hl 1 rfl) ?_
  refine lv_if_lt (tgt := 53) hx hb dX5_step_37 (by decide) (fun c6 => ?_) (fun c6 => ?_)
  · have hq := hq.1 c6
    exact W.vret hx hb hr (fun t ht hW => ⟨⟨(w_used, (w_left - (1 : Int32)), a1, (if w_top < a1 then a1 else w_top), r5), rfl, hq, Bw_mk (by rw [ht]; exact hP) (va_K.moved hW.alike hK) hD⟩, hS.F ht⟩) hS.2.2 dX5_step_53
  · have hq := hq.2 c6
    refine lv_iload_n hx hb dX5_step_40 rfl (lv_at hl 1 rfl) ?_
    refine lv_bipush (v := (18 : Int32)) hx hb dX5_step_41 (by decide) ?_
    refine lv_icmp_ge (tgt := 53) hx hb dX5_step_43 (by decide) (fun c7 => ?_) (fun c7 => ?_)
    · have hq := hq.1 c7
      exact W.vret hx hb hr (fun t ht hW => ⟨⟨(w_used, (w_left - (1 : Int32)), a1, (if w_top < a1 then a1 else w_top), r5), rfl, hq, Bw_mk (by rw [ht]; exact hP) (va_K.moved hW.alike hK) hD⟩, hS.F ht⟩) hS.2.2 dX5_step_53
    · have hq := hq.2 c7
      refine lv_aload_n hx hb dX5_step_46 rfl (lv_at hl 0 rfl) ?_
      refine va_get (D := (dC, dI)) (ci := 5) (v := .ref (aw 1)) (C := RX5) (T := TX5) (N := 8) hx hb hts uwX5 hown hK hP 0 rfl rfl 1 (by decide) (hts _ fl_X5_9) (fun _ h9 => h9) rfl dX5_step_47 ?_
      refine lv_iload_n hx hb dX5_step_50 rfl (lv_at hl 1 rfl) ?_
      refine lv_iconst (v := (1 : Int32)) hx hb dX5_step_51 (by decide) ?_
      obtain ⟨i8, hq⟩ := hq
      refine va_zast hx hb hK hP hD hS 1 2 rfl rfl i8 dX5_step_52 (fun H locs hP hD hS => ?_)
      have hP : va_P (dC, dI) vwCl (wX5 cs aw at_ (upd w_used a1.toNatClampNeg (1 : Int32)) w_kind w_size (w_left - (1 : Int32)) a1 (if w_top < a1 then a1 else w_top) r5) H := hP
      have hD : va_D A (wX5 cs aw at_ (upd w_used a1.toNatClampNeg (1 : Int32)) w_kind w_size (w_left - (1 : Int32)) a1 (if w_top < a1 then a1 else w_top) r5) := hD
      exact W.vret hx hb hr (fun t ht hW => ⟨⟨((upd w_used a1.toNatClampNeg (1 : Int32)), (w_left - (1 : Int32)), a1, (if w_top < a1 then a1 else w_top), r5), rfl, hq, Bw_mk (by rw [ht]; exact hP) (va_K.moved hW.alike hK) hD⟩, hS.F ht⟩) hS.2.2 dX5_step_53
set_option maxHeartbeats 4000000 in
set_option maxRecDepth 100000 in
theorem c5_writeRow (l : Launch) (dC : Nat → ClassId) (dI : Nat → Nat → Nat) (cs : Nat → ClassId) (aw : Nat → Nat) (at_ : Nat → Nat) (ao : Nat → Nat) (rr : Nat → Nat) (ru : Nat → Nat) (sz : Nat) (w_used : Nat → Int32) (w_kind : Int32) (w_size : Int32) (w_left : Int32) (w_last : Int32) (w_top : Int32) (w_wanted : Int32) (o_row : Nat → Int32) (o_made : Nat → Int32) (o_size : Int32) (t_fac : Nat → Int64) (t_der : Nat → Int64) (t_rec : Nat → Nat → Int64) (t_rut : Nat → Nat → Int64) (t_ris : Nat → Int64) (a1 : Int64) {Q : (Nat → Int32) → Int32 → Int32 → Int32 → Int32 → (Nat → Int32) → (Nat → Int32) → Prop} (hq : q5_writeRow w_kind w_size o_size t_fac t_rec t_ris w_used w_left w_last w_top w_wanted o_row o_made a1 Q) : Met l yX5_writeRow (.code yX5_writeRow cX5_writeRow 11 none :: gt) ({ frames := 4, cells := 0, slots := 0, locals := 93 } : Room) (va_Pc [.ref (aw 0), .long a1, .ref (ao 0)] (Pw2 (dC, dI) (KA cs) (wX5o cs aw at_ ao w_used w_kind w_size w_left w_last w_top w_wanted o_row o_made o_size) (wX3 cs at_ rr ru t_fac t_der t_rec t_rut t_ris) sz)) (va_Qv (fun (u : (Nat → Int32) × Int32 × Int32 × Int32 × Int32 × (Nat → Int32) × (Nat → Int32)) => Q u.1 u.2.1 u.2.2.1 u.2.2.2.1 u.2.2.2.2.1 u.2.2.2.2.2.1 u.2.2.2.2.2.2) (Bw (dC, dI) (KA cs) (va_A (wX5o cs aw at_ ao w_used w_kind w_size w_left w_last w_top w_wanted o_row o_made o_size) sz) (fun u : (Nat → Int32) × Int32 × Int32 × Int32 × Int32 × (Nat → Int32) × (Nat → Int32) => (wX5o cs aw at_ ao u.1 w_kind w_size u.2.1 u.2.2.1 u.2.2.2.1 u.2.2.2.2.1 u.2.2.2.2.2.1 u.2.2.2.2.2.2 o_size))) (va_A (wX5o cs aw at_ ao w_used w_kind w_size w_left w_last w_top w_wanted o_row o_made o_size) sz)) 0 0 (va_A (wX5o cs aw at_ ao w_used w_kind w_size w_left w_last w_top w_wanted o_row o_made o_size) sz) := by
  refine Met.ofW (cc := cX5_writeRow) (maxL := 11) (ret := none) (by decide) rfl ?_
  intro p e s m args below meth c s₁ B hml hv
  obtain ⟨rfl, hsz, hP0, hK, hD1, hN⟩ := hv
  have hP := va_P_l hP0
  have hO := va_P_r hP0
  have hD0 := va_D_l hD1
  have hDO := va_D_r hD1
  have hx := B.exec
  have hb := B.bytes
  have hr := B.returns
  have hts0 := atoms_spec (ws := (.code yX5_writeRow cX5_writeRow 11 none :: gt)) B.pre
  have hts : ∀ w ∈ gt, w.before _ s = true := fun w h => hts0 w (List.mem_cons_of_mem _ h)
  have hown : s.vm.findClass RX5 = some m.cls := findClass_of_methodNamed B.named
  have hlocks := B.notSynchronized
  subst hsz
  have hD := hD0.self (sz := s.heap.size)
  have hNA := na_of hP0 hD1
  generalize hAe : va_A (wX5o cs aw at_ ao w_used w_kind w_size w_left w_last w_top w_wanted o_row o_made o_size) s.heap.size = A at hD hNA ⊢
  have hA : ∀ q : Nat, s.heap.size ≤ q → A q := fun q h => by rw [← hAe]; exact Or.inr h
  have hS : va_S A s.heap s.heap [] := va_S.rf
  have hl := lv_entry ([.ref (aw 0), .long a1, .ref (ao 0)]) (n := 11) (Nat.le_of_ble_eq_true rfl)
  rw [lg_entry_eq]
  generalize (lg_sl ([.ref (aw 0), .long a1, .ref (ao 0)]) ++ List.replicate (11 - (lg_sl ([.ref (aw 0), .long a1, .ref (ao 0)])).length) Slot.unset).toArray = ls at hl ⊢
  have hl : lv_has ls 11 [(0, .ref (aw 0)), (1, .long a1), (3, .ref (ao 0))] := hl
  have B100 : ∀ (w_used : Nat → Int32) (w_left : Int32) (w_last : Int32) (w_top : Int32) (w_wanted : Int32) (o_row : Nat → Int32) (o_made : Nat → Int32) (H : Heap) (locs : List Loc) (ls : Array Slot), q5_writeRow_100 w_kind w_size o_size t_fac t_rec t_ris Q w_used w_left w_last w_top w_wanted o_row o_made → va_P (dC, dI) vwCl (wX5o cs aw at_ ao w_used w_kind w_size w_left w_last w_top w_wanted o_row o_made o_size) H → va_D A (wX5o cs aw at_ ao w_used w_kind w_size w_left w_last w_top w_wanted o_row o_made o_size) → va_S A s.heap H locs → lv_has ls 11 [(0, .ref (aw 0)), (3, .ref (ao 0))] → W p l e ({ frames := 4, cells := 0, slots := 0, locals := 93 } : Room) s m ([.ref (aw 0), .long a1, .ref (ao 0)] : List Value).toArray below meth c H locs 0 0 (MQ below (va_Qv (fun (u : (Nat → Int32) × Int32 × Int32 × Int32 × Int32 × (Nat → Int32) × (Nat → Int32)) => Q u.1 u.2.1 u.2.2.1 u.2.2.2.1 u.2.2.2.2.1 u.2.2.2.2.2.1 u.2.2.2.2.2.2) (Bw (dC, dI) (KA cs) A (fun u : (Nat → Int32) × Int32 × Int32 × Int32 × Int32 × (Nat → Int32) × (Nat → Int32) => (wX5o cs aw at_ ao u.1 w_kind w_size u.2.1 u.2.2.1 u.2.2.2.1 u.2.2.2.2.1 u.2.2.2.2.2.1 u.2.2.2.2.2.2 o_size))) A) ([.ref (aw 0), .long a1, .ref (ao 0)] : List Value).toArray s 0 0 A) (F0 m 100 ls []) := by
    intro w_used w_left w_last w_top w_wanted o_row o_made H locs ls hq hP hD hS hl
    unfold q5_writeRow_100 at hq
    refine lv_aload_n hx hb dX5_writeRow_100 rfl (lv_at hl 1 rfl) ?_
    refine jwv (runV ⟨hx, hb, hml, hown, hts⟩ wf_X1_keepMade ml_X5_62 (c1_keepMade l dC dI cs ao _ o_row o_made o_size  hq) ⟨⟨rfl, rfl⟩, by decide, by decide⟩ (preW (hP.sub (ws' := wX1 cs ao o_row o_made o_size) [2, 3, 4] rfl) hK hN (hD.sub (ws' := wX1 cs ao o_row o_made o_size) [2, 3, 4] (by decide) rfl)) hK hP rfl 2 rfl rfl hl.1 rfl (Nat.le_of_ble_eq_true rfl) dX5_writeRow_101 ⟨(Nat.le_of_ble_eq_true rfl), (Nat.le_of_ble_eq_true rfl)⟩) hP hD hS hA 2 5 rfl (fun  o_row_17 H locs hq hP hD hS => ?_)
    have hP : va_P (dC, dI) vwCl (wX5o cs aw at_ ao w_used w_kind w_size w_left w_last w_top w_wanted o_row_17 o_made o_size) H := hP
    have hD : va_D A (wX5o cs aw at_ ao w_used w_kind w_size w_left w_last w_top w_wanted o_row_17 o_made o_size) := hD
    exact W.vret hx hb hr (fun t ht hW => ⟨⟨(w_used, w_left, w_last, w_top, w_wanted, o_row_17, o_made), rfl, hq, Bw_mk (by rw [ht]; exact hP) (va_K.moved hW.alike hK) hD⟩, hS.F ht⟩) hS.2.2 dX5_writeRow_104
  have B6 : ∀ (k6 : Nat) (x4 : Int64) (x6 : Int32) (w_used : Nat → Int32) (w_left : Int32) (w_last : Int32) (w_top : Int32) (w_wanted : Int32) (o_row : Nat → Int32) (o_made : Nat → Int32) (H : Heap) (locs : List Loc) (ls : Array Slot), q5_writeRow_6 w_kind w_size o_size t_fac t_rec t_ris Q k6 x4 x6 w_used w_left w_last w_top w_wanted o_row o_made → va_P (dC, dI) vwCl (wX5o cs aw at_ ao w_used w_kind w_size w_left w_last w_top w_wanted o_row o_made o_size) H → va_D A (wX5o cs aw at_ ao w_used w_kind w_size w_left w_last w_top w_wanted o_row o_made o_size) → va_S A s.heap H locs → lv_has ls 11 [(0, .ref (aw 0)), (3, .ref (ao 0)), (4, .long x4), (6, .int x6)] → W p l e ({ frames := 4, cells := 0, slots := 0, locals := 93 } : Room) s m ([.ref (aw 0), .long a1, .ref (ao 0)] : List Value).toArray below meth c H locs 0 0 (MQ below (va_Qv (fun (u : (Nat → Int32) × Int32 × Int32 × Int32 × Int32 × (Nat → Int32) × (Nat → Int32)) => Q u.1 u.2.1 u.2.2.1 u.2.2.2.1 u.2.2.2.2.1 u.2.2.2.2.2.1 u.2.2.2.2.2.2) (Bw (dC, dI) (KA cs) A (fun u : (Nat → Int32) × Int32 × Int32 × Int32 × Int32 × (Nat → Int32) × (Nat → Int32) => (wX5o cs aw at_ ao u.1 w_kind w_size u.2.1 u.2.2.1 u.2.2.2.1 u.2.2.2.2.1 u.2.2.2.2.2.1 u.2.2.2.2.2.2 o_size))) A) ([.ref (aw 0), .long a1, .ref (ao 0)] : List Value).toArray s 0 0 A) (F0 m 6 ls []) := by
    intro k6
    induction k6 with
    | zero => intro x4 x6 w_used w_left w_last w_top w_wanted o_row o_made H locs ls hq; exact False.elim hq
    | succ k6 ih6 =>
      intro x4 x6 w_used w_left w_last w_top w_wanted o_row o_made H locs ls hq hP hD hS hl
      have B94 : ∀ (x4 : Int64) (x6 : Int32) (w_used : Nat → Int32) (w_left : Int32) (w_last : Int32) (w_top : Int32) (w_wanted : Int32) (o_row : Nat → Int32) (o_made : Nat → Int32) (H : Heap) (locs : List Loc) (ls : Array Slot), q5_writeRow_94 w_kind w_size o_size t_fac t_rec t_ris (fun v0 v1 v2 v3 v4 v5 v6 v7 v8 => q5_writeRow_6 w_kind w_size o_size t_fac t_rec t_ris Q k6 v0 v1 v2 v3 v4 v5 v6 v7 v8) Q x4 x6 w_used w_left w_last w_top w_wanted o_row o_made → va_P (dC, dI) vwCl (wX5o cs aw at_ ao w_used w_kind w_size w_left w_last w_top w_wanted o_row o_made o_size) H → va_D A (wX5o cs aw at_ ao w_used w_kind w_size w_left w_last w_top w_wanted o_row o_made o_size) → va_S A s.heap H locs → lv_has ls 11 [(0, .ref (aw 0)), (3, .ref (ao 0)), (4, .long x4), (6, .int x6)] → W p l e ({ frames := 4, cells := 0, slots := 0, locals := 93 } : Room) s m ([.ref (aw 0), .long a1, .ref (ao 0)] : List Value).toArray below meth c H locs 0 0 (MQ below (va_Qv (fun (u : (Nat → Int32) × Int32 × Int32 × Int32 × Int32 × (Nat → Int32) × (Nat → Int32)) => Q u.1 u.2.1 u.2.2.1 u.2.2.2.1 u.2.2.2.2.1 u.2.2.2.2.2.1 u.2.2.2.2.2.2) (Bw (dC, dI) (KA cs) A (fun u : (Nat → Int32) × Int32 × Int32 × Int32 × Int32 × (Nat → Int32) × (Nat → Int32) => (wX5o cs aw at_ ao u.1 w_kind w_size u.2.1 u.2.2.1 u.2.2.2.1 u.2.2.2.2.1 u.2.2.2.2.2.1 u.2.2.2.2.2.2 o_size))) A) ([.ref (aw 0), .long a1, .ref (ao 0)] : List Value).toArray s 0 0 A) (F0 m 94 ls []) := by
        intro x4 x6 w_used w_left w_last w_top w_wanted o_row o_made H locs ls hq hP hD hS hl
        unfold q5_writeRow_94 at hq
        refine lv_iinc (v := (x6 + (1 : Int32))) (lv' := [(6, .int (x6 + (1 : Int32))), (0, .ref (aw 0)), (3, .ref (ao 0)), (4, .long x4)]) hx hb dX5_writeRow_94 hl (k := 3) rfl (by rfl) (by decide) rfl (fun ls hl => ?_)
        refine lv_goto (tgt := 6) hx hb dX5_writeRow_97 (by decide) ?_
        exact ih6 x4 (x6 + (1 : Int32)) w_used w_left w_last w_top w_wanted o_row o_made _ _ _ hq hP hD hS (lv_sub hl [1, 2, 3, 0] rfl)
      have B61 : ∀ (x4 : Int64) (x6 : Int32) (x8 : Int32) (w_used : Nat → Int32) (w_left : Int32) (w_last : Int32) (w_top : Int32) (w_wanted : Int32) (o_row : Nat → Int32) (o_made : Nat → Int32) (H : Heap) (locs : List Loc) (ls : Array Slot), q5_writeRow_61 w_kind w_size o_size t_fac t_rec t_ris (fun v0 v1 v2 v3 v4 v5 v6 v7 v8 => q5_writeRow_6 w_kind w_size o_size t_fac t_rec t_ris Q k6 v0 v1 v2 v3 v4 v5 v6 v7 v8) Q x4 x6 x8 w_used w_left w_last w_top w_wanted o_row o_made → va_P (dC, dI) vwCl (wX5o cs aw at_ ao w_used w_kind w_size w_left w_last w_top w_wanted o_row o_made o_size) H → va_D A (wX5o cs aw at_ ao w_used w_kind w_size w_left w_last w_top w_wanted o_row o_made o_size) → va_S A s.heap H locs → lv_has ls 11 [(0, .ref (aw 0)), (3, .ref (ao 0)), (4, .long x4), (6, .int x6), (8, .int x8)] → W p l e ({ frames := 4, cells := 0, slots := 0, locals := 93 } : Room) s m ([.ref (aw 0), .long a1, .ref (ao 0)] : List Value).toArray below meth c H locs 0 0 (MQ below (va_Qv (fun (u : (Nat → Int32) × Int32 × Int32 × Int32 × Int32 × (Nat → Int32) × (Nat → Int32)) => Q u.1 u.2.1 u.2.2.1 u.2.2.2.1 u.2.2.2.2.1 u.2.2.2.2.2.1 u.2.2.2.2.2.2) (Bw (dC, dI) (KA cs) A (fun u : (Nat → Int32) × Int32 × Int32 × Int32 × Int32 × (Nat → Int32) × (Nat → Int32) => (wX5o cs aw at_ ao u.1 w_kind w_size u.2.1 u.2.2.1 u.2.2.2.1 u.2.2.2.2.1 u.2.2.2.2.2.1 u.2.2.2.2.2.2 o_size))) A) ([.ref (aw 0), .long a1, .ref (ao 0)] : List Value).toArray s 0 0 A) (F0 m 61 ls []) := by
        intro x4 x6 x8 w_used w_left w_last w_top w_wanted o_row o_made H locs ls hq hP hD hS hl
        unfold q5_writeRow_61 at hq
        refine lv_aload_n hx hb dX5_writeRow_61 rfl (lv_at hl 1 rfl) ?_
        refine lv_iload hx hb dX5_writeRow_62 (lv_at hl 3 rfl) ?_
        refine lv_iload hx hb dX5_writeRow_64 (lv_at hl 4 rfl) ?_
        refine jwv (runV ⟨hx, hb, hml, hown, hts⟩ wf_X1_makeAt ml_X5_52 (c1_makeAt l dC dI cs ao _ o_row o_made o_size x6 x8 hq) ⟨⟨rfl, rfl⟩, by decide, by decide⟩ (preW (hP.sub (ws' := wX1 cs ao o_row o_made o_size) [2, 3, 4] rfl) hK hN (hD.sub (ws' := wX1 cs ao o_row o_made o_size) [2, 3, 4] (by decide) rfl)) hK hP rfl 2 rfl rfl hl.1 rfl (Nat.le_of_ble_eq_true rfl) dX5_writeRow_66 ⟨(Nat.le_of_ble_eq_true rfl), (Nat.le_of_ble_eq_true rfl)⟩) hP hD hS hA 2 5 rfl (fun  o_made_19 H locs hq hP hD hS => ?_)
        have hP : va_P (dC, dI) vwCl (wX5o cs aw at_ ao w_used w_kind w_size w_left w_last w_top w_wanted o_row o_made_19 o_size) H := hP
        have hD : va_D A (wX5o cs aw at_ ao w_used w_kind w_size w_left w_last w_top w_wanted o_row o_made_19 o_size) := hD
        refine lv_aload_n hx hb dX5_writeRow_69 rfl (lv_at hl 0 rfl) ?_
        refine lv_iload hx hb dX5_writeRow_70 (lv_at hl 4 rfl) ?_
        refine jwv (runV ⟨hx, hb, hml, hown, hts⟩ wf_X5_step ml_X5_58 (c5_step l dC dI cs aw at_ rr ru _ w_used w_kind w_size w_left w_last w_top w_wanted t_fac t_der t_rec t_rut t_ris x8 hq) ⟨⟨rfl, rfl⟩, by decide, by decide⟩ (preW2 (hP.sub (ws' := wX5 cs aw at_ w_used w_kind w_size w_left w_last w_top w_wanted) [0, 1] rfl) (ro_at hO hNA hS) hK hN (hD.sub (ws' := wX5 cs aw at_ w_used w_kind w_size w_left w_last w_top w_wanted) [0, 1] (by decide) rfl) hDO hNA) hK hP rfl 0 rfl rfl hl.1 rfl (Nat.le_of_ble_eq_true rfl) dX5_writeRow_72 ⟨(Nat.le_of_ble_eq_true rfl), (Nat.le_of_ble_eq_true rfl)⟩) hP hD hS hA 0 2 rfl (fun  u26 H locs hq hP hD hS => ?_)
        obtain ⟨w_used_21, w_left_22, w_last_23, w_top_24, w_wanted_25⟩ := u26
        try dsimp only at hq
        have hP : va_P (dC, dI) vwCl (wX5o cs aw at_ ao w_used_21 w_kind w_size w_left_22 w_last_23 w_top_24 w_wanted_25 o_row o_made_19 o_size) H := hP
        have hD : va_D A (wX5o cs aw at_ ao w_used_21 w_kind w_size w_left_22 w_last_23 w_top_24 w_wanted_25 o_row o_made_19 o_size) := hD
        refine lv_goto (tgt := 94) hx hb dX5_writeRow_75 (by decide) ?_
        exact B94 x4 x6 w_used_21 w_left_22 w_last_23 w_top_24 w_wanted_25 o_row o_made_19 _ _ _ hq hP hD hS (lv_sub hl [0, 1, 2, 3] rfl)
      have B21 : ∀ (k21 : Nat) (x4 : Int64) (x6 : Int32) (x7 : Int32) (x8 : Int32) (w_used : Nat → Int32) (w_left : Int32) (w_last : Int32) (w_top : Int32) (w_wanted : Int32) (o_row : Nat → Int32) (o_made : Nat → Int32) (H : Heap) (locs : List Loc) (ls : Array Slot), q5_writeRow_21 w_kind w_size o_size t_fac t_rec t_ris (fun v0 v1 v2 v3 v4 v5 v6 v7 v8 => q5_writeRow_6 w_kind w_size o_size t_fac t_rec t_ris Q k6 v0 v1 v2 v3 v4 v5 v6 v7 v8) Q k21 x4 x6 x7 x8 w_used w_left w_last w_top w_wanted o_row o_made → va_P (dC, dI) vwCl (wX5o cs aw at_ ao w_used w_kind w_size w_left w_last w_top w_wanted o_row o_made o_size) H → va_D A (wX5o cs aw at_ ao w_used w_kind w_size w_left w_last w_top w_wanted o_row o_made o_size) → va_S A s.heap H locs → lv_has ls 11 [(0, .ref (aw 0)), (3, .ref (ao 0)), (4, .long x4), (6, .int x6), (7, .int x7), (8, .int x8)] → W p l e ({ frames := 4, cells := 0, slots := 0, locals := 93 } : Room) s m ([.ref (aw 0), .long a1, .ref (ao 0)] : List Value).toArray below meth c H locs 0 0 (MQ below (va_Qv (fun (u : (Nat → Int32) × Int32 × Int32 × Int32 × Int32 × (Nat → Int32) × (Nat → Int32)) => Q u.1 u.2.1 u.2.2.1 u.2.2.2.1 u.2.2.2.2.1 u.2.2.2.2.2.1 u.2.2.2.2.2.2) (Bw (dC, dI) (KA cs) A (fun u : (Nat → Int32) × Int32 × Int32 × Int32 × Int32 × (Nat → Int32) × (Nat → Int32) => (wX5o cs aw at_ ao u.1 w_kind w_size u.2.1 u.2.2.1 u.2.2.2.1 u.2.2.2.2.1 u.2.2.2.2.2.1 u.2.2.2.2.2.2 o_size))) A) ([.ref (aw 0), .long a1, .ref (ao 0)] : List Value).toArray s 0 0 A) (F0 m 21 ls []) := by
        intro k21
        induction k21 with
        | zero => intro x4 x6 x7 x8 w_used w_left w_last w_top w_wanted o_row o_made H locs ls hq; exact False.elim hq
        | succ k21 ih21 =>
          intro x4 x6 x7 x8 w_used w_left w_last w_top w_wanted o_row o_made H locs ls hq hP hD hS hl
          have B88 : ∀ (x4 : Int64) (x6 : Int32) (x7 : Int32) (x8 : Int32) (w_used : Nat → Int32) (w_left : Int32) (w_last : Int32) (w_top : Int32) (w_wanted : Int32) (o_row : Nat → Int32) (o_made : Nat → Int32) (H : Heap) (locs : List Loc) (ls : Array Slot), q5_writeRow_88 w_kind w_size o_size t_fac t_rec t_ris (fun v0 v1 v2 v3 v4 v5 v6 v7 v8 => q5_writeRow_6 w_kind w_size o_size t_fac t_rec t_ris Q k6 v0 v1 v2 v3 v4 v5 v6 v7 v8) (fun v0 v1 v2 v3 v4 v5 v6 v7 v8 v9 v10 => q5_writeRow_21 w_kind w_size o_size t_fac t_rec t_ris (fun v0 v1 v2 v3 v4 v5 v6 v7 v8 => q5_writeRow_6 w_kind w_size o_size t_fac t_rec t_ris Q k6 v0 v1 v2 v3 v4 v5 v6 v7 v8) Q k21 v0 v1 v2 v3 v4 v5 v6 v7 v8 v9 v10) Q x4 x6 x7 x8 w_used w_left w_last w_top w_wanted o_row o_made → va_P (dC, dI) vwCl (wX5o cs aw at_ ao w_used w_kind w_size w_left w_last w_top w_wanted o_row o_made o_size) H → va_D A (wX5o cs aw at_ ao w_used w_kind w_size w_left w_last w_top w_wanted o_row o_made o_size) → va_S A s.heap H locs → lv_has ls 11 [(0, .ref (aw 0)), (3, .ref (ao 0)), (4, .long x4), (6, .int x6), (7, .int x7), (8, .int x8)] → W p l e ({ frames := 4, cells := 0, slots := 0, locals := 93 } : Room) s m ([.ref (aw 0), .long a1, .ref (ao 0)] : List Value).toArray below meth c H locs 0 0 (MQ below (va_Qv (fun (u : (Nat → Int32) × Int32 × Int32 × Int32 × Int32 × (Nat → Int32) × (Nat → Int32)) => Q u.1 u.2.1 u.2.2.1 u.2.2.2.1 u.2.2.2.2.1 u.2.2.2.2.2.1 u.2.2.2.2.2.2) (Bw (dC, dI) (KA cs) A (fun u : (Nat → Int32) × Int32 × Int32 × Int32 × Int32 × (Nat → Int32) × (Nat → Int32) => (wX5o cs aw at_ ao u.1 w_kind w_size u.2.1 u.2.2.1 u.2.2.2.1 u.2.2.2.2.1 u.2.2.2.2.2.1 u.2.2.2.2.2.2 o_size))) A) ([.ref (aw 0), .long a1, .ref (ao 0)] : List Value).toArray s 0 0 A) (F0 m 88 ls []) := by
            intro x4 x6 x7 x8 w_used w_left w_last w_top w_wanted o_row o_made H locs ls hq hP hD hS hl
            unfold q5_writeRow_88 at hq
            refine lv_iinc (v := (x8 + (1 : Int32))) (lv' := [(8, .int (x8 + (1 : Int32))), (0, .ref (aw 0)), (3, .ref (ao 0)), (4, .long x4), (6, .int x6), (7, .int x7)]) hx hb dX5_writeRow_88 hl (k := 5) rfl (by rfl) (by decide) rfl (fun ls hl => ?_)
            refine lv_goto (tgt := 21) hx hb dX5_writeRow_91 (by decide) ?_
            exact ih21 x4 x6 x7 (x8 + (1 : Int32)) w_used w_left w_last w_top w_wanted o_row o_made _ _ _ hq hP hD hS (lv_sub hl [1, 2, 3, 4, 5, 0] rfl)
          unfold q5_writeRow_21 at hq
          refine lv_iload hx hb dX5_writeRow_21 (lv_at hl 5 rfl) ?_
          refine lv_aload_n hx hb dX5_writeRow_23 rfl (lv_at hl 0 rfl) ?_
          refine va_get (D := (dC, dI)) (ci := 5) (v := .int w_size) (C := RX5) (T := TX5) (N := 8) hx hb hts uwX5 hown hK hP 0 rfl rfl 3 (by decide) (hts _ fl_X5_29) (fun _ h9 => h9) rfl dX5_writeRow_24 ?_
          refine lv_icmp_ge (tgt := 94) hx hb dX5_writeRow_27 (by decide) (fun c27 => ?_) (fun c27 => ?_)
          · have hq := hq.1 c27
            exact B94 x4 x6 w_used w_left w_last w_top w_wanted o_row o_made _ _ _ hq hP hD hS (lv_sub hl [0, 1, 2, 3] rfl)
          · have hq := hq.2 c27
            refine lv_aload_n hx hb dX5_writeRow_30 rfl (lv_at hl 0 rfl) ?_
            refine va_get (D := (dC, dI)) (ci := 5) (v := .ref (aw 1)) (C := RX5) (T := TX5) (N := 8) hx hb hts uwX5 hown hK hP 0 rfl rfl 1 (by decide) (hts _ fl_X5_9) (fun _ h9 => h9) rfl dX5_writeRow_31 ?_
            refine lv_iload hx hb dX5_writeRow_34 (lv_at hl 5 rfl) ?_
            obtain ⟨i28, hq⟩ := hq
            refine va_zald hx hb hK hP 1 2 rfl rfl i28 dX5_writeRow_36 ?_
            refine lv_if_eq (tgt := 43) hx hb dX5_writeRow_37 (by decide) (fun c29 => ?_) (fun c29 => ?_)
            · have hq := hq.1 c29
              refine lv_aload_n hx hb dX5_writeRow_43 rfl (lv_at hl 0 rfl) ?_
              refine lv_iload hx hb dX5_writeRow_44 (lv_at hl 5 rfl) ?_
              refine lv_iload hx hb dX5_writeRow_46 (lv_at hl 4 rfl) ?_
              refine rol (runV ⟨hx, hb, hml, hown, hts⟩ wf_X5_waysWith ml_X5_48 (c5_waysWith l dC dI cs aw at_ rr ru w_used w_kind w_size w_left w_last w_top w_wanted t_fac t_der t_rec t_rut t_ris x8 x7 hq) ⟨⟨rfl, rfl⟩, by decide, by decide⟩ (preR (va_P_app (hP.sub (ws' := wX5 cs aw at_ w_used w_kind w_size w_left w_last w_top w_wanted) [0, 1] rfl) (ro_at hO hNA hS)) hK hN) hK hP rfl 0 rfl rfl hl.1 rfl (Nat.le_of_ble_eq_true rfl) dX5_writeRow_48 ⟨(Nat.le_of_ble_eq_true rfl), (Nat.le_of_ble_eq_true rfl)⟩) (fun r30 hq => ?_)
              refine lv_lstore (lv' := [(9, .long r30), (0, .ref (aw 0)), (3, .ref (ao 0)), (4, .long x4), (6, .int x6), (7, .int x7), (8, .int x8)]) hx hb dX5_writeRow_51 hl (by decide) rfl (fun ls hl => ?_)
              refine lv_lload hx hb dX5_writeRow_53 (lv_at hl 3 rfl) ?_
              refine lv_lload hx hb dX5_writeRow_55 (lv_at hl 0 rfl) ?_
              refine lc_ge (tgt := 78) hx hb dX5_writeRow_57 dX5_writeRow_58 (by decide) (fun c31 => ?_) (fun c31 => ?_)
              · have hq := hq.1 c31
                refine lv_lload hx hb dX5_writeRow_78 (lv_at hl 3 rfl) ?_
                refine lv_lload hx hb dX5_writeRow_80 (lv_at hl 0 rfl) ?_
                refine lv_lsub hx hb dX5_writeRow_82 ?_
                refine lv_lstore (lv' := [(4, .long (x4 - r30)), (9, .long r30), (0, .ref (aw 0)), (3, .ref (ao 0)), (6, .int x6), (7, .int x7), (8, .int x8)]) hx hb dX5_writeRow_83 hl (by decide) rfl (fun ls hl => ?_)
                refine lv_iinc (v := (x7 + (1 : Int32))) (lv' := [(7, .int (x7 + (1 : Int32))), (4, .long (x4 - r30)), (9, .long r30), (0, .ref (aw 0)), (3, .ref (ao 0)), (6, .int x6), (8, .int x8)]) hx hb dX5_writeRow_85 hl (k := 5) rfl (by rfl) (by decide) rfl (fun ls hl => ?_)
                exact B88 (x4 - r30) x6 (x7 + (1 : Int32)) x8 w_used w_left w_last w_top w_wanted o_row o_made _ _ _ hq hP hD hS (lv_sub hl [3, 4, 1, 5, 0, 6] rfl)
              · have hq := hq.2 c31
                exact B61 x4 x6 x8 w_used w_left w_last w_top w_wanted o_row o_made _ _ _ hq hP hD hS (lv_sub hl [1, 2, 3, 4, 6] rfl)
            · have hq := hq.2 c29
              refine lv_goto (tgt := 88) hx hb dX5_writeRow_40 (by decide) ?_
              exact B88 x4 x6 x7 x8 w_used w_left w_last w_top w_wanted o_row o_made _ _ _ hq hP hD hS (lv_sub hl [0, 1, 2, 3, 4, 5] rfl)
      unfold q5_writeRow_6 at hq
      refine lv_iload hx hb dX5_writeRow_6 (lv_at hl 3 rfl) ?_
      refine lv_aload_n hx hb dX5_writeRow_8 rfl (lv_at hl 0 rfl) ?_
      refine va_get (D := (dC, dI)) (ci := 5) (v := .int w_size) (C := RX5) (T := TX5) (N := 8) hx hb hts uwX5 hown hK hP 0 rfl rfl 3 (by decide) (hts _ fl_X5_29) (fun _ h9 => h9) rfl dX5_writeRow_9 ?_
      refine lv_icmp_ge (tgt := 100) hx hb dX5_writeRow_12 (by decide) (fun c32 => ?_) (fun c32 => ?_)
      · have hq := hq.1 c32
        exact B100 w_used w_left w_last w_top w_wanted o_row o_made _ _ _ hq hP hD hS (lv_sub hl [0, 1] rfl)
      · have hq := hq.2 c32
        refine lv_iconst (v := (0 : Int32)) hx hb dX5_writeRow_15 (by decide) ?_
        refine lv_istore (lv' := [(7, .int (0 : Int32)), (0, .ref (aw 0)), (3, .ref (ao 0)), (4, .long x4), (6, .int x6)]) hx hb dX5_writeRow_16 hl (by decide) rfl (fun ls hl => ?_)
        refine lv_iconst (v := (0 : Int32)) hx hb dX5_writeRow_18 (by decide) ?_
        refine lv_istore (lv' := [(8, .int (0 : Int32)), (7, .int (0 : Int32)), (0, .ref (aw 0)), (3, .ref (ao 0)), (4, .long x4), (6, .int x6)]) hx hb dX5_writeRow_19 hl (by decide) rfl (fun ls hl => ?_)
        obtain ⟨kf, hq⟩ := hq
        exact B21 kf x4 x6 (0 : Int32) (0 : Int32) w_used w_left w_last w_top w_wanted o_row o_made _ _ _ hq hP hD hS (lv_sub hl [2, 3, 4, 5, 1, 0] rfl)
  unfold q5_writeRow at hq
  refine lv_lload_n hx hb dX5_writeRow_0 rfl (lv_at hl 1 rfl) ?_
  refine lv_lstore (lv' := [(4, .long a1), (0, .ref (aw 0)), (1, .long a1), (3, .ref (ao 0))]) hx hb dX5_writeRow_1 hl (by decide) rfl (fun ls hl => ?_)
  refine lv_iconst (v := (0 : Int32)) hx hb dX5_writeRow_3 (by decide) ?_
  refine lv_istore (lv' := [(6, .int (0 : Int32)), (4, .long a1), (0, .ref (aw 0)), (1, .long a1), (3, .ref (ao 0))]) hx hb dX5_writeRow_4 hl (by decide) rfl (fun ls hl => ?_)
  obtain ⟨kf, hq⟩ := hq
  exact B6 kf a1 (0 : Int32) w_used w_left w_last w_top w_wanted o_row o_made _ _ _ hq hP hD hS (lv_sub hl [2, 4, 1, 0] rfl)
set_option maxHeartbeats 4000000 in
set_option maxRecDepth 100000 in
theorem c5_rowsAheadOf (l : Launch) (dC : Nat → ClassId) (dI : Nat → Nat → Nat) (cs : Nat → ClassId) (aw : Nat → Nat) (at_ : Nat → Nat) (ao : Nat → Nat) (rr : Nat → Nat) (ru : Nat → Nat) (sz : Nat) (w_used : Nat → Int32) (w_kind : Int32) (w_size : Int32) (w_left : Int32) (w_last : Int32) (w_top : Int32) (w_wanted : Int32) (o_row : Nat → Int32) (o_made : Nat → Int32) (o_size : Int32) (t_fac : Nat → Int64) (t_der : Nat → Int64) (t_rec : Nat → Nat → Int64) (t_rut : Nat → Nat → Int64) (t_ris : Nat → Int64) {Q : Int64 → (Nat → Int32) → Int32 → Int32 → Int32 → Int32 → Prop} (hq : q5_rowsAheadOf w_kind w_size o_row o_size t_fac t_rec t_ris w_used w_left w_last w_top w_wanted Q) : Met l yX5_rowsAheadOf (.code yX5_rowsAheadOf cX5_rowsAheadOf 8 (some .long) :: gt) ({ frames := 4, cells := 0, slots := 0, locals := 93 } : Room) (va_Pc [.ref (aw 0), .ref (ao 0)] (Pw2 (dC, dI) (KA cs) (wX5o cs aw at_ ao w_used w_kind w_size w_left w_last w_top w_wanted o_row o_made o_size) (wX3 cs at_ rr ru t_fac t_der t_rec t_rut t_ris) sz)) (va_Ql (fun (r : Int64) (u : (Nat → Int32) × Int32 × Int32 × Int32 × Int32) => Q r u.1 u.2.1 u.2.2.1 u.2.2.2.1 u.2.2.2.2) (Bw (dC, dI) (KA cs) (va_A (wX5o cs aw at_ ao w_used w_kind w_size w_left w_last w_top w_wanted o_row o_made o_size) sz) (fun u : (Nat → Int32) × Int32 × Int32 × Int32 × Int32 => (wX5o cs aw at_ ao u.1 w_kind w_size u.2.1 u.2.2.1 u.2.2.2.1 u.2.2.2.2 o_row o_made o_size))) (va_A (wX5o cs aw at_ ao w_used w_kind w_size w_left w_last w_top w_wanted o_row o_made o_size) sz)) 0 0 (va_A (wX5o cs aw at_ ao w_used w_kind w_size w_left w_last w_top w_wanted o_row o_made o_size) sz) := by
  refine Met.ofW (cc := cX5_rowsAheadOf) (maxL := 8) (ret := (some .long)) (by decide) rfl ?_
  intro p e s m args below meth c s₁ B hml hv
  obtain ⟨rfl, hsz, hP0, hK, hD1, hN⟩ := hv
  have hP := va_P_l hP0
  have hO := va_P_r hP0
  have hD0 := va_D_l hD1
  have hDO := va_D_r hD1
  have hx := B.exec
  have hb := B.bytes
  have hr := B.returns
  have hts0 := atoms_spec (ws := (.code yX5_rowsAheadOf cX5_rowsAheadOf 8 (some .long) :: gt)) B.pre
  have hts : ∀ w ∈ gt, w.before _ s = true := fun w h => hts0 w (List.mem_cons_of_mem _ h)
  have hown : s.vm.findClass RX5 = some m.cls := findClass_of_methodNamed B.named
  have hlocks := B.notSynchronized
  subst hsz
  have hD := hD0.self (sz := s.heap.size)
  have hNA := na_of hP0 hD1
  generalize hAe : va_A (wX5o cs aw at_ ao w_used w_kind w_size w_left w_last w_top w_wanted o_row o_made o_size) s.heap.size = A at hD hNA ⊢
  have hA : ∀ q : Nat, s.heap.size ≤ q → A q := fun q h => by rw [← hAe]; exact Or.inr h
  have hS : va_S A s.heap s.heap [] := va_S.rf
  have hl := lv_entry ([.ref (aw 0), .ref (ao 0)]) (n := 8) (Nat.le_of_ble_eq_true rfl)
  rw [lg_entry_eq]
  generalize (lg_sl ([.ref (aw 0), .ref (ao 0)]) ++ List.replicate (8 - (lg_sl ([.ref (aw 0), .ref (ao 0)])).length) Slot.unset).toArray = ls at hl ⊢
  have hl : lv_has ls 8 [(0, .ref (aw 0)), (1, .ref (ao 0))] := hl
  have B5 : ∀ (k5 : Nat) (x2 : Int64) (x4 : Int32) (w_used : Nat → Int32) (w_left : Int32) (w_last : Int32) (w_top : Int32) (w_wanted : Int32) (H : Heap) (locs : List Loc) (ls : Array Slot), q5_rowsAheadOf_5 w_kind w_size o_row o_size t_fac t_rec t_ris Q k5 x2 x4 w_used w_left w_last w_top w_wanted → va_P (dC, dI) vwCl (wX5o cs aw at_ ao w_used w_kind w_size w_left w_last w_top w_wanted o_row o_made o_size) H → va_D A (wX5o cs aw at_ ao w_used w_kind w_size w_left w_last w_top w_wanted o_row o_made o_size) → va_S A s.heap H locs → lv_has ls 8 [(0, .ref (aw 0)), (1, .ref (ao 0)), (2, .long x2), (4, .int x4)] → W p l e ({ frames := 4, cells := 0, slots := 0, locals := 93 } : Room) s m ([.ref (aw 0), .ref (ao 0)] : List Value).toArray below meth c H locs 0 0 (MQ below (va_Ql (fun (r : Int64) (u : (Nat → Int32) × Int32 × Int32 × Int32 × Int32) => Q r u.1 u.2.1 u.2.2.1 u.2.2.2.1 u.2.2.2.2) (Bw (dC, dI) (KA cs) A (fun u : (Nat → Int32) × Int32 × Int32 × Int32 × Int32 => (wX5o cs aw at_ ao u.1 w_kind w_size u.2.1 u.2.2.1 u.2.2.2.1 u.2.2.2.2 o_row o_made o_size))) A) ([.ref (aw 0), .ref (ao 0)] : List Value).toArray s 0 0 A) (F0 m 5 ls []) := by
    intro k5
    induction k5 with
    | zero => intro x2 x4 w_used w_left w_last w_top w_wanted H locs ls hq; exact False.elim hq
    | succ k5 ih5 =>
      intro x2 x4 w_used w_left w_last w_top w_wanted H locs ls hq hP hD hS hl
      have B74 : ∀ (x2 : Int64) (x4 : Int32) (x5 : Int32) (w_used : Nat → Int32) (w_left : Int32) (w_last : Int32) (w_top : Int32) (w_wanted : Int32) (H : Heap) (locs : List Loc) (ls : Array Slot), q5_rowsAheadOf_74 w_kind w_size o_row o_size t_fac t_rec t_ris (fun v0 v1 v2 v3 v4 v5 v6 => q5_rowsAheadOf_5 w_kind w_size o_row o_size t_fac t_rec t_ris Q k5 v0 v1 v2 v3 v4 v5 v6) Q x2 x4 x5 w_used w_left w_last w_top w_wanted → va_P (dC, dI) vwCl (wX5o cs aw at_ ao w_used w_kind w_size w_left w_last w_top w_wanted o_row o_made o_size) H → va_D A (wX5o cs aw at_ ao w_used w_kind w_size w_left w_last w_top w_wanted o_row o_made o_size) → va_S A s.heap H locs → lv_has ls 8 [(0, .ref (aw 0)), (1, .ref (ao 0)), (2, .long x2), (4, .int x4), (5, .int x5)] → W p l e ({ frames := 4, cells := 0, slots := 0, locals := 93 } : Room) s m ([.ref (aw 0), .ref (ao 0)] : List Value).toArray below meth c H locs 0 0 (MQ below (va_Ql (fun (r : Int64) (u : (Nat → Int32) × Int32 × Int32 × Int32 × Int32) => Q r u.1 u.2.1 u.2.2.1 u.2.2.2.1 u.2.2.2.2) (Bw (dC, dI) (KA cs) A (fun u : (Nat → Int32) × Int32 × Int32 × Int32 × Int32 => (wX5o cs aw at_ ao u.1 w_kind w_size u.2.1 u.2.2.1 u.2.2.2.1 u.2.2.2.2 o_row o_made o_size))) A) ([.ref (aw 0), .ref (ao 0)] : List Value).toArray s 0 0 A) (F0 m 74 ls []) := by
        intro x2 x4 x5 w_used w_left w_last w_top w_wanted H locs ls hq hP hD hS hl
        unfold q5_rowsAheadOf_74 at hq
        refine lv_aload_n hx hb dX5_rowsAheadOf_74 rfl (lv_at hl 0 rfl) ?_
        refine lv_iload hx hb dX5_rowsAheadOf_75 (lv_at hl 4 rfl) ?_
        refine jwv (runV ⟨hx, hb, hml, hown, hts⟩ wf_X5_step ml_X5_58 (c5_step l dC dI cs aw at_ rr ru _ w_used w_kind w_size w_left w_last w_top w_wanted t_fac t_der t_rec t_rut t_ris x5 hq) ⟨⟨rfl, rfl⟩, by decide, by decide⟩ (preW2 (hP.sub (ws' := wX5 cs aw at_ w_used w_kind w_size w_left w_last w_top w_wanted) [0, 1] rfl) (ro_at hO hNA hS) hK hN (hD.sub (ws' := wX5 cs aw at_ w_used w_kind w_size w_left w_last w_top w_wanted) [0, 1] (by decide) rfl) hDO hNA) hK hP rfl 0 rfl rfl hl.1 rfl (Nat.le_of_ble_eq_true rfl) dX5_rowsAheadOf_77 ⟨(Nat.le_of_ble_eq_true rfl), (Nat.le_of_ble_eq_true rfl)⟩) hP hD hS hA 0 2 rfl (fun  u19 H locs hq hP hD hS => ?_)
        obtain ⟨w_used_14, w_left_15, w_last_16, w_top_17, w_wanted_18⟩ := u19
        try dsimp only at hq
        have hP : va_P (dC, dI) vwCl (wX5o cs aw at_ ao w_used_14 w_kind w_size w_left_15 w_last_16 w_top_17 w_wanted_18 o_row o_made o_size) H := hP
        have hD : va_D A (wX5o cs aw at_ ao w_used_14 w_kind w_size w_left_15 w_last_16 w_top_17 w_wanted_18 o_row o_made o_size) := hD
        refine lv_iinc (v := (x4 + (1 : Int32))) (lv' := [(4, .int (x4 + (1 : Int32))), (0, .ref (aw 0)), (1, .ref (ao 0)), (2, .long x2), (5, .int x5)]) hx hb dX5_rowsAheadOf_80 hl (k := 3) rfl (by rfl) (by decide) rfl (fun ls hl => ?_)
        refine lv_goto (tgt := 5) hx hb dX5_rowsAheadOf_83 (by decide) ?_
        exact ih5 x2 (x4 + (1 : Int32)) w_used_14 w_left_15 w_last_16 w_top_17 w_wanted_18 _ _ _ hq hP hD hS (lv_sub hl [1, 2, 3, 0] rfl)
      have B28 : ∀ (k28 : Nat) (x2 : Int64) (x4 : Int32) (x5 : Int32) (x6 : Int32) (x7 : Int32) (w_used : Nat → Int32) (w_left : Int32) (w_last : Int32) (w_top : Int32) (w_wanted : Int32) (H : Heap) (locs : List Loc) (ls : Array Slot), q5_rowsAheadOf_28 w_kind w_size o_row o_size t_fac t_rec t_ris (fun v0 v1 v2 v3 v4 v5 v6 => q5_rowsAheadOf_5 w_kind w_size o_row o_size t_fac t_rec t_ris Q k5 v0 v1 v2 v3 v4 v5 v6) Q k28 x2 x4 x5 x6 x7 w_used w_left w_last w_top w_wanted → va_P (dC, dI) vwCl (wX5o cs aw at_ ao w_used w_kind w_size w_left w_last w_top w_wanted o_row o_made o_size) H → va_D A (wX5o cs aw at_ ao w_used w_kind w_size w_left w_last w_top w_wanted o_row o_made o_size) → va_S A s.heap H locs → lv_has ls 8 [(0, .ref (aw 0)), (1, .ref (ao 0)), (2, .long x2), (4, .int x4), (5, .int x5), (6, .int x6), (7, .int x7)] → W p l e ({ frames := 4, cells := 0, slots := 0, locals := 93 } : Room) s m ([.ref (aw 0), .ref (ao 0)] : List Value).toArray below meth c H locs 0 0 (MQ below (va_Ql (fun (r : Int64) (u : (Nat → Int32) × Int32 × Int32 × Int32 × Int32) => Q r u.1 u.2.1 u.2.2.1 u.2.2.2.1 u.2.2.2.2) (Bw (dC, dI) (KA cs) A (fun u : (Nat → Int32) × Int32 × Int32 × Int32 × Int32 => (wX5o cs aw at_ ao u.1 w_kind w_size u.2.1 u.2.2.1 u.2.2.2.1 u.2.2.2.2 o_row o_made o_size))) A) ([.ref (aw 0), .ref (ao 0)] : List Value).toArray s 0 0 A) (F0 m 28 ls []) := by
        intro k28
        induction k28 with
        | zero => intro x2 x4 x5 x6 x7 w_used w_left w_last w_top w_wanted H locs ls hq; exact False.elim hq
        | succ k28 ih28 =>
          intro x2 x4 x5 x6 x7 w_used w_left w_last w_top w_wanted H locs ls hq hP hD hS hl
          have B68 : ∀ (x2 : Int64) (x4 : Int32) (x5 : Int32) (x6 : Int32) (x7 : Int32) (w_used : Nat → Int32) (w_left : Int32) (w_last : Int32) (w_top : Int32) (w_wanted : Int32) (H : Heap) (locs : List Loc) (ls : Array Slot), q5_rowsAheadOf_68 w_kind w_size o_row o_size t_fac t_rec t_ris (fun v0 v1 v2 v3 v4 v5 v6 => q5_rowsAheadOf_5 w_kind w_size o_row o_size t_fac t_rec t_ris Q k5 v0 v1 v2 v3 v4 v5 v6) (fun v0 v1 v2 v3 v4 v5 v6 v7 v8 v9 => q5_rowsAheadOf_28 w_kind w_size o_row o_size t_fac t_rec t_ris (fun v0 v1 v2 v3 v4 v5 v6 => q5_rowsAheadOf_5 w_kind w_size o_row o_size t_fac t_rec t_ris Q k5 v0 v1 v2 v3 v4 v5 v6) Q k28 v0 v1 v2 v3 v4 v5 v6 v7 v8 v9) Q x2 x4 x5 x6 x7 w_used w_left w_last w_top w_wanted → va_P (dC, dI) vwCl (wX5o cs aw at_ ao w_used w_kind w_size w_left w_last w_top w_wanted o_row o_made o_size) H → va_D A (wX5o cs aw at_ ao w_used w_kind w_size w_left w_last w_top w_wanted o_row o_made o_size) → va_S A s.heap H locs → lv_has ls 8 [(0, .ref (aw 0)), (1, .ref (ao 0)), (2, .long x2), (4, .int x4), (5, .int x5), (6, .int x6), (7, .int x7)] → W p l e ({ frames := 4, cells := 0, slots := 0, locals := 93 } : Room) s m ([.ref (aw 0), .ref (ao 0)] : List Value).toArray below meth c H locs 0 0 (MQ below (va_Ql (fun (r : Int64) (u : (Nat → Int32) × Int32 × Int32 × Int32 × Int32) => Q r u.1 u.2.1 u.2.2.1 u.2.2.2.1 u.2.2.2.2) (Bw (dC, dI) (KA cs) A (fun u : (Nat → Int32) × Int32 × Int32 × Int32 × Int32 => (wX5o cs aw at_ ao u.1 w_kind w_size u.2.1 u.2.2.1 u.2.2.2.1 u.2.2.2.2 o_row o_made o_size))) A) ([.ref (aw 0), .ref (ao 0)] : List Value).toArray s 0 0 A) (F0 m 68 ls []) := by
            intro x2 x4 x5 x6 x7 w_used w_left w_last w_top w_wanted H locs ls hq hP hD hS hl
            unfold q5_rowsAheadOf_68 at hq
            refine lv_iinc (v := (x7 + (1 : Int32))) (lv' := [(7, .int (x7 + (1 : Int32))), (0, .ref (aw 0)), (1, .ref (ao 0)), (2, .long x2), (4, .int x4), (5, .int x5), (6, .int x6)]) hx hb dX5_rowsAheadOf_68 hl (k := 6) rfl (by rfl) (by decide) rfl (fun ls hl => ?_)
            refine lv_goto (tgt := 28) hx hb dX5_rowsAheadOf_71 (by decide) ?_
            exact ih28 x2 x4 x5 x6 (x7 + (1 : Int32)) w_used w_left w_last w_top w_wanted _ _ _ hq hP hD hS (lv_sub hl [1, 2, 3, 4, 5, 6, 0] rfl)
          unfold q5_rowsAheadOf_28 at hq
          refine lv_iload hx hb dX5_rowsAheadOf_28 (lv_at hl 6 rfl) ?_
          refine lv_iload hx hb dX5_rowsAheadOf_30 (lv_at hl 4 rfl) ?_
          refine lv_icmp_ge (tgt := 74) hx hb dX5_rowsAheadOf_32 (by decide) (fun c20 => ?_) (fun c20 => ?_)
          · have hq := hq.1 c20
            exact B74 x2 x4 x5 w_used w_left w_last w_top w_wanted _ _ _ hq hP hD hS (lv_sub hl [0, 1, 2, 3, 4] rfl)
          · have hq := hq.2 c20
            refine lv_iload hx hb dX5_rowsAheadOf_35 (lv_at hl 6 rfl) ?_
            refine lv_aload_n hx hb dX5_rowsAheadOf_37 rfl (lv_at hl 0 rfl) ?_
            refine va_get (D := (dC, dI)) (ci := 5) (v := .int w_size) (C := RX5) (T := TX5) (N := 8) hx hb hts uwX5 hown hK hP 0 rfl rfl 3 (by decide) (hts _ fl_X5_29) (fun _ h9 => h9) rfl dX5_rowsAheadOf_38 ?_
            refine lv_icmp_ge (tgt := 74) hx hb dX5_rowsAheadOf_41 (by decide) (fun c21 => ?_) (fun c21 => ?_)
            · have hq := hq.1 c21
              exact B74 x2 x4 x5 w_used w_left w_last w_top w_wanted _ _ _ hq hP hD hS (lv_sub hl [0, 1, 2, 3, 4] rfl)
            · have hq := hq.2 c21
              refine lv_aload_n hx hb dX5_rowsAheadOf_44 rfl (lv_at hl 0 rfl) ?_
              refine va_get (D := (dC, dI)) (ci := 5) (v := .ref (aw 1)) (C := RX5) (T := TX5) (N := 8) hx hb hts uwX5 hown hK hP 0 rfl rfl 1 (by decide) (hts _ fl_X5_9) (fun _ h9 => h9) rfl dX5_rowsAheadOf_45 ?_
              refine lv_iload hx hb dX5_rowsAheadOf_48 (lv_at hl 6 rfl) ?_
              obtain ⟨i22, hq⟩ := hq
              refine va_zald hx hb hK hP 1 2 rfl rfl i22 dX5_rowsAheadOf_50 ?_
              refine lv_if_ne (tgt := 68) hx hb dX5_rowsAheadOf_51 (by decide) (fun c23 => ?_) (fun c23 => ?_)
              · have hq := hq.1 c23
                exact B68 x2 x4 x5 x6 x7 w_used w_left w_last w_top w_wanted _ _ _ hq hP hD hS (lv_sub hl [0, 1, 2, 3, 4, 5, 6] rfl)
              · have hq := hq.2 c23
                refine lv_lload_n hx hb dX5_rowsAheadOf_54 rfl (lv_at hl 2 rfl) ?_
                refine lv_aload_n hx hb dX5_rowsAheadOf_55 rfl (lv_at hl 0 rfl) ?_
                refine lv_iload hx hb dX5_rowsAheadOf_56 (lv_at hl 6 rfl) ?_
                refine lv_iload hx hb dX5_rowsAheadOf_58 (lv_at hl 5 rfl) ?_
                refine rol (runV ⟨hx, hb, hml, hown, hts⟩ wf_X5_waysWith ml_X5_48 (c5_waysWith l dC dI cs aw at_ rr ru w_used w_kind w_size w_left w_last w_top w_wanted t_fac t_der t_rec t_rut t_ris x7 x6 hq) ⟨⟨rfl, rfl⟩, by decide, by decide⟩ (preR (va_P_app (hP.sub (ws' := wX5 cs aw at_ w_used w_kind w_size w_left w_last w_top w_wanted) [0, 1] rfl) (ro_at hO hNA hS)) hK hN) hK hP rfl 0 rfl rfl hl.1 rfl (Nat.le_of_ble_eq_true rfl) dX5_rowsAheadOf_60 ⟨(Nat.le_of_ble_eq_true rfl), (Nat.le_of_ble_eq_true rfl)⟩) (fun r24 hq => ?_)
                refine lv_ladd hx hb dX5_rowsAheadOf_63 ?_
                refine lv_lstore_n (lv' := [(2, .long (x2 + r24)), (0, .ref (aw 0)), (1, .ref (ao 0)), (4, .int x4), (5, .int x5), (6, .int x6), (7, .int x7)]) hx hb dX5_rowsAheadOf_64 rfl hl (by decide) rfl (fun ls hl => ?_)
                refine lv_iinc (v := (x6 + (1 : Int32))) (lv' := [(6, .int (x6 + (1 : Int32))), (2, .long (x2 + r24)), (0, .ref (aw 0)), (1, .ref (ao 0)), (4, .int x4), (5, .int x5), (7, .int x7)]) hx hb dX5_rowsAheadOf_65 hl (k := 5) rfl (by rfl) (by decide) rfl (fun ls hl => ?_)
                exact B68 (x2 + r24) x4 x5 (x6 + (1 : Int32)) x7 w_used w_left w_last w_top w_wanted _ _ _ hq hP hD hS (lv_sub hl [2, 3, 1, 4, 5, 0, 6] rfl)
      unfold q5_rowsAheadOf_5 at hq
      refine lv_iload hx hb dX5_rowsAheadOf_5 (lv_at hl 3 rfl) ?_
      refine lv_aload_n hx hb dX5_rowsAheadOf_7 rfl (lv_at hl 0 rfl) ?_
      refine va_get (D := (dC, dI)) (ci := 5) (v := .int w_size) (C := RX5) (T := TX5) (N := 8) hx hb hts uwX5 hown hK hP 0 rfl rfl 3 (by decide) (hts _ fl_X5_29) (fun _ h9 => h9) rfl dX5_rowsAheadOf_8 ?_
      refine lv_icmp_ge (tgt := 86) hx hb dX5_rowsAheadOf_11 (by decide) (fun c25 => ?_) (fun c25 => ?_)
      · have hq := hq.1 c25
        refine lv_lload_n hx hb dX5_rowsAheadOf_86 rfl (lv_at hl 2 rfl) ?_
        exact W.lret (v := x2) hx hb hr (fun t ht hW => ⟨⟨x2, (w_used, w_left, w_last, w_top, w_wanted), rfl, hq, Bw_mk (by rw [ht]; exact hP) (va_K.moved hW.alike hK) hD⟩, hS.F ht⟩) hS.2.2 dX5_rowsAheadOf_87
      · have hq := hq.2 c25
        refine lv_aload_n hx hb dX5_rowsAheadOf_14 rfl (lv_at hl 1 rfl) ?_
        refine lv_iload hx hb dX5_rowsAheadOf_15 (lv_at hl 3 rfl) ?_
        refine roi (runV ⟨hx, hb, hml, hown, hts⟩ wf_X1_follow ml_X5_65 (c1_follow l dC dI cs ao o_row o_made o_size x4 hq) ⟨⟨rfl, rfl⟩, by decide, by decide⟩ (preR (hP.sub (ws' := wX1 cs ao o_row o_made o_size) [2, 3, 4] rfl) hK hN) hK hP rfl 2 rfl rfl hl.1 rfl (Nat.le_of_ble_eq_true rfl) dX5_rowsAheadOf_17 ⟨(Nat.le_of_ble_eq_true rfl), (Nat.le_of_ble_eq_true rfl)⟩) (fun r26 hq => ?_)
        refine lv_istore (lv' := [(5, .int r26), (0, .ref (aw 0)), (1, .ref (ao 0)), (2, .long x2), (4, .int x4)]) hx hb dX5_rowsAheadOf_20 hl (by decide) rfl (fun ls hl => ?_)
        refine lv_iconst (v := (0 : Int32)) hx hb dX5_rowsAheadOf_22 (by decide) ?_
        refine lv_istore (lv' := [(6, .int (0 : Int32)), (5, .int r26), (0, .ref (aw 0)), (1, .ref (ao 0)), (2, .long x2), (4, .int x4)]) hx hb dX5_rowsAheadOf_23 hl (by decide) rfl (fun ls hl => ?_)
        refine lv_iconst (v := (0 : Int32)) hx hb dX5_rowsAheadOf_25 (by decide) ?_
        refine lv_istore (lv' := [(7, .int (0 : Int32)), (6, .int (0 : Int32)), (5, .int r26), (0, .ref (aw 0)), (1, .ref (ao 0)), (2, .long x2), (4, .int x4)]) hx hb dX5_rowsAheadOf_26 hl (by decide) rfl (fun ls hl => ?_)
        obtain ⟨kf, hq⟩ := hq
        exact B28 kf x2 x4 r26 (0 : Int32) (0 : Int32) w_used w_left w_last w_top w_wanted _ _ _ hq hP hD hS (lv_sub hl [3, 4, 5, 6, 2, 1, 0] rfl)
  unfold q5_rowsAheadOf at hq
  refine lv_lconst (v := (0 : Int64)) hx hb dX5_rowsAheadOf_0 (by decide) ?_
  refine lv_lstore_n (lv' := [(2, .long (0 : Int64)), (0, .ref (aw 0)), (1, .ref (ao 0))]) hx hb dX5_rowsAheadOf_1 rfl hl (by decide) rfl (fun ls hl => ?_)
  refine lv_iconst (v := (0 : Int32)) hx hb dX5_rowsAheadOf_2 (by decide) ?_
  refine lv_istore (lv' := [(4, .int (0 : Int32)), (2, .long (0 : Int64)), (0, .ref (aw 0)), (1, .ref (ao 0))]) hx hb dX5_rowsAheadOf_3 hl (by decide) rfl (fun ls hl => ?_)
  obtain ⟨kf, hq⟩ := hq
  exact B5 kf (0 : Int64) (0 : Int32) w_used w_left w_last w_top w_wanted _ _ _ hq hP hD hS (lv_sub hl [2, 3, 1, 0] rfl)
