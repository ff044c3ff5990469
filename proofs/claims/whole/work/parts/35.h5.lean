set_option maxHeartbeats 4000000 in
set_option maxRecDepth 100000 in
theorem c6_toRecords (l : Launch) (dC : Nat → ClassId) (dI : Nat → Nat → Nat) (cs : Nat → ClassId) (ah : Nat → Nat) (sh : Nat → Nat → Nat) (al : Nat → Nat) (bx : Nat → Nat) (aw : Nat → Nat) (ac : Nat → Nat) (at_ : Nat → Nat) (rr : Nat → Nat) (ru : Nat → Nat) (tl : va_W) (sz : Nat) (h_size : Int32) (h_opened : Int32) (h_tal : Nat → Option Nat) (s0_row : Nat → Int32) (s0_made : Nat → Int32) (s0_size : Int32) (s1_row : Nat → Int32) (s1_made : Nat → Int32) (s1_size : Int32) (s2_row : Nat → Int32) (s2_made : Nat → Int32) (s2_size : Int32) (s3_row : Nat → Int32) (s3_made : Nat → Int32) (s3_size : Int32) (l_len : Nat → Int32) (l_ways : Nat → Int64) (l_box : Nat → Nat → Int32) (w_used : Nat → Int32) (w_kind : Int32) (w_size : Int32) (w_left : Int32) (w_last : Int32) (w_top : Int32) (w_wanted : Int32) (c_row : Nat → Int32) (c_made : Nat → Int32) (c_size : Int32) (t_fac : Nat → Int64) (t_der : Nat → Int64) (t_rec : Nat → Nat → Int64) (t_rut : Nat → Nat → Int64) (t_ris : Nat → Int64) {Q : Int32 → (Nat → Int32) → (Nat → Int32) → Prop} (hq : q6_toRecords c_size c_row c_made Q) : Met l yX6_toRecords (.code yX6_toRecords cX6_toRecords 1 (some .int) :: gt) ({ frames := 4, cells := 0, slots := 0, locals := 89 } : Room) (va_Pc [.ref (ah 0)] (Pw (dC, dI) (KA cs) (wX6 cs ah sh al bx aw ac at_ rr ru tl h_size h_opened h_tal s0_row s0_made s0_size s1_row s1_made s1_size s2_row s2_made s2_size s3_row s3_made s3_size l_len l_ways l_box w_used w_kind w_size w_left w_last w_top w_wanted c_row c_made c_size t_fac t_der t_rec t_rut t_ris) sz)) (va_Qi (fun (r : Int32) (u : (Nat → Int32) × (Nat → Int32)) => Q r u.1 u.2) (Bw (dC, dI) (KA cs) (va_A (wX6 cs ah sh al bx aw ac at_ rr ru tl h_size h_opened h_tal s0_row s0_made s0_size s1_row s1_made s1_size s2_row s2_made s2_size s3_row s3_made s3_size l_len l_ways l_box w_used w_kind w_size w_left w_last w_top w_wanted c_row c_made c_size t_fac t_der t_rec t_rut t_ris) sz) (fun u : (Nat → Int32) × (Nat → Int32) => (wX6 cs ah sh al bx aw ac at_ rr ru tl h_size h_opened h_tal s0_row s0_made s0_size s1_row s1_made s1_size s2_row s2_made s2_size s3_row s3_made s3_size l_len l_ways l_box w_used w_kind w_size w_left w_last w_top w_wanted u.1 u.2 c_size t_fac t_der t_rec t_rut t_ris))) (va_A (wX6 cs ah sh al bx aw ac at_ rr ru tl h_size h_opened h_tal s0_row s0_made s0_size s1_row s1_made s1_size s2_row s2_made s2_size s3_row s3_made s3_size l_len l_ways l_box w_used w_kind w_size w_left w_last w_top w_wanted c_row c_made c_size t_fac t_der t_rec t_rut t_ris) sz)) 0 0 (va_A (wX6 cs ah sh al bx aw ac at_ rr ru tl h_size h_opened h_tal s0_row s0_made s0_size s1_row s1_made s1_size s2_row s2_made s2_size s3_row s3_made s3_size l_len l_ways l_box w_used w_kind w_size w_left w_last w_top w_wanted c_row c_made c_size t_fac t_der t_rec t_rut t_ris) sz) := by
  refine Met.ofW (cc := cX6_toRecords) (maxL := 1) (ret := (some .int)) (by decide) rfl ?_
  intro p e s m args below meth c s₁ B hml hv
  obtain ⟨rfl, hsz, hP, hK, hD0, hN⟩ := hv
  have hx := B.exec
  have hb := B.bytes
  have hr := B.returns
  have hts0 := atoms_spec (ws := (.code yX6_toRecords cX6_toRecords 1 (some .int) :: gt)) B.pre
  have hts : ∀ w ∈ gt, w.before _ s = true := fun w h => hts0 w (List.mem_cons_of_mem _ h)
  have hown : s.vm.findClass RX6 = some m.cls := findClass_of_methodNamed B.named
  have hlocks := B.notSynchronized
  subst hsz
  have hD := hD0.self (sz := s.heap.size)
  generalize hAe : va_A (wX6 cs ah sh al bx aw ac at_ rr ru tl h_size h_opened h_tal s0_row s0_made s0_size s1_row s1_made s1_size s2_row s2_made s2_size s3_row s3_made s3_size l_len l_ways l_box w_used w_kind w_size w_left w_last w_top w_wanted c_row c_made c_size t_fac t_der t_rec t_rut t_ris) s.heap.size = A at hD ⊢
  have hA : ∀ q : Nat, s.heap.size ≤ q → A q := fun q h => by rw [← hAe]; exact Or.inr h
  have hS : va_S A s.heap s.heap [] := va_S.rf
  have hl := lv_entry ([.ref (ah 0)]) (n := 1) (Nat.le_of_ble_eq_true rfl)
  rw [lg_entry_eq]
  generalize (lg_sl ([.ref (ah 0)]) ++ List.replicate (1 - (lg_sl ([.ref (ah 0)])).length) Slot.unset).toArray = ls at hl ⊢
  have hl : lv_has ls 1 [(0, .ref (ah 0))] := hl
  unfold q6_toRecords at hq
  refine lv_aload_n hx hb dX6_toRecords_0 rfl (lv_at hl 0 rfl) ?_
  refine va_get (D := (dC, dI)) (ci := 6) (v := .ref (ac 0)) (C := RX6) (T := TX6) (N := 8) hx hb hts uwX6 hown hK hP 0 rfl rfl 0 (by decide) (hts _ fl_X6_10) (fun _ h9 => h9) rfl dX6_toRecords_1 ?_
  refine jwv (runV ⟨hx, hb, hml, hown, hts⟩ wf_X1_makeRecords ml_X6_137 (c1_makeRecords l dC dI cs ac _ c_row c_made c_size  hq) ⟨⟨rfl, rfl⟩, by decide, by decide⟩ (preW (hP.sub (ws' := wX1 cs ac c_row c_made c_size) [39, 40, 41] rfl) hK hN (hD.sub (ws' := wX1 cs ac c_row c_made c_size) [39, 40, 41] (by decide) rfl)) hK hP rfl 39 rfl rfl hl.1 rfl (Nat.le_of_ble_eq_true rfl) dX6_toRecords_4 ⟨(Nat.le_of_ble_eq_true rfl), (Nat.le_of_ble_eq_true rfl)⟩) hP hD hS hA 39 42 rfl (fun  u6 H locs hq hP hD hS => ?_)
  obtain ⟨c_row_4, c_made_5⟩ := u6
  try dsimp only at hq
  have hP : va_P (dC, dI) vwCl (wX6 cs ah sh al bx aw ac at_ rr ru tl h_size h_opened h_tal s0_row s0_made s0_size s1_row s1_made s1_size s2_row s2_made s2_size s3_row s3_made s3_size l_len l_ways l_box w_used w_kind w_size w_left w_last w_top w_wanted c_row_4 c_made_5 c_size t_fac t_der t_rec t_rut t_ris) H := hP
  have hD : va_D A (wX6 cs ah sh al bx aw ac at_ rr ru tl h_size h_opened h_tal s0_row s0_made s0_size s1_row s1_made s1_size s2_row s2_made s2_size s3_row s3_made s3_size l_len l_ways l_box w_used w_kind w_size w_left w_last w_top w_wanted c_row_4 c_made_5 c_size t_fac t_der t_rec t_rut t_ris) := hD
  refine lv_iconst (v := (1 : Int32)) hx hb dX6_toRecords_7 (by decide) ?_
  exact W.iret (v := (1 : Int32)) hx hb hr (fun t ht hW => ⟨⟨(1 : Int32), (c_row_4, c_made_5), rfl, hq, Bw_mk (by rw [ht]; exact hP) (va_K.moved hW.alike hK) hD⟩, hS.F ht⟩) hS.2.2 dX6_toRecords_8
set_option maxHeartbeats 4000000 in
set_option maxRecDepth 100000 in
theorem c6_opens (l : Launch) (dC : Nat → ClassId) (dI : Nat → Nat → Nat) (cs : Nat → ClassId) (ah : Nat → Nat) (sh : Nat → Nat → Nat) (al : Nat → Nat) (bx : Nat → Nat) (aw : Nat → Nat) (ac : Nat → Nat) (at_ : Nat → Nat) (rr : Nat → Nat) (ru : Nat → Nat) (tl : va_W) (sz : Nat) (h_size : Int32) (h_opened : Int32) (h_tal : Nat → Option Nat) (s0_row : Nat → Int32) (s0_made : Nat → Int32) (s0_size : Int32) (s1_row : Nat → Int32) (s1_made : Nat → Int32) (s1_size : Int32) (s2_row : Nat → Int32) (s2_made : Nat → Int32) (s2_size : Int32) (s3_row : Nat → Int32) (s3_made : Nat → Int32) (s3_size : Int32) (l_len : Nat → Int32) (l_ways : Nat → Int64) (l_box : Nat → Nat → Int32) (w_used : Nat → Int32) (w_kind : Int32) (w_size : Int32) (w_left : Int32) (w_last : Int32) (w_top : Int32) (w_wanted : Int32) (c_row : Nat → Int32) (c_made : Nat → Int32) (c_size : Int32) (t_fac : Nat → Int64) (t_der : Nat → Int64) (t_rec : Nat → Nat → Int64) (t_rut : Nat → Nat → Int64) (t_ris : Nat → Int64) (a1 : Int32) {Q : Int32 → Int32 → Prop} (hq : q6_opens h_size h_opened a1 Q) : Met l yX6_opens (.code yX6_opens cX6_opens 3 (some .int) :: gt) ({ frames := 0, cells := 0, slots := 0, locals := 0 } : Room) (va_Pc [.ref (ah 0), .int a1] (Pw (dC, dI) (KA cs) (wX6 cs ah sh al bx aw ac at_ rr ru tl h_size h_opened h_tal s0_row s0_made s0_size s1_row s1_made s1_size s2_row s2_made s2_size s3_row s3_made s3_size l_len l_ways l_box w_used w_kind w_size w_left w_last w_top w_wanted c_row c_made c_size t_fac t_der t_rec t_rut t_ris) sz)) (va_Qi (fun (r : Int32) (u : Int32) => Q r u) (Bw (dC, dI) (KA cs) (va_A (wX6 cs ah sh al bx aw ac at_ rr ru tl h_size h_opened h_tal s0_row s0_made s0_size s1_row s1_made s1_size s2_row s2_made s2_size s3_row s3_made s3_size l_len l_ways l_box w_used w_kind w_size w_left w_last w_top w_wanted c_row c_made c_size t_fac t_der t_rec t_rut t_ris) sz) (fun u : Int32 => (wX6 cs ah sh al bx aw ac at_ rr ru tl h_size u h_tal s0_row s0_made s0_size s1_row s1_made s1_size s2_row s2_made s2_size s3_row s3_made s3_size l_len l_ways l_box w_used w_kind w_size w_left w_last w_top w_wanted c_row c_made c_size t_fac t_der t_rec t_rut t_ris))) (va_A (wX6 cs ah sh al bx aw ac at_ rr ru tl h_size h_opened h_tal s0_row s0_made s0_size s1_row s1_made s1_size s2_row s2_made s2_size s3_row s3_made s3_size l_len l_ways l_box w_used w_kind w_size w_left w_last w_top w_wanted c_row c_made c_size t_fac t_der t_rec t_rut t_ris) sz)) 0 0 (va_A (wX6 cs ah sh al bx aw ac at_ rr ru tl h_size h_opened h_tal s0_row s0_made s0_size s1_row s1_made s1_size s2_row s2_made s2_size s3_row s3_made s3_size l_len l_ways l_box w_used w_kind w_size w_left w_last w_top w_wanted c_row c_made c_size t_fac t_der t_rec t_rut t_ris) sz) := by
  refine Met.ofW (cc := cX6_opens) (maxL := 3) (ret := (some .int)) (by decide) rfl ?_
  intro p e s m args below meth c s₁ B hml hv
  obtain ⟨rfl, hsz, hP, hK, hD0, hN⟩ := hv
  have hx := B.exec
  have hb := B.bytes
  have hr := B.returns
  have hts0 := atoms_spec (ws := (.code yX6_opens cX6_opens 3 (some .int) :: gt)) B.pre
  have hts : ∀ w ∈ gt, w.before _ s = true := fun w h => hts0 w (List.mem_cons_of_mem _ h)
  have hown : s.vm.findClass RX6 = some m.cls := findClass_of_methodNamed B.named
  have hlocks := B.notSynchronized
  subst hsz
  have hD := hD0.self (sz := s.heap.size)
  generalize hAe : va_A (wX6 cs ah sh al bx aw ac at_ rr ru tl h_size h_opened h_tal s0_row s0_made s0_size s1_row s1_made s1_size s2_row s2_made s2_size s3_row s3_made s3_size l_len l_ways l_box w_used w_kind w_size w_left w_last w_top w_wanted c_row c_made c_size t_fac t_der t_rec t_rut t_ris) s.heap.size = A at hD ⊢
  have hA : ∀ q : Nat, s.heap.size ≤ q → A q := fun q h => by rw [← hAe]; exact Or.inr h
  have hS : va_S A s.heap s.heap [] := va_S.rf
  have hl := lv_entry ([.ref (ah 0), .int a1]) (n := 3) (Nat.le_of_ble_eq_true rfl)
  rw [lg_entry_eq]
  generalize (lg_sl ([.ref (ah 0), .int a1]) ++ List.replicate (3 - (lg_sl ([.ref (ah 0), .int a1])).length) Slot.unset).toArray = ls at hl ⊢
  have hl : lv_has ls 3 [(0, .ref (ah 0)), (1, .int a1)] := hl
  unfold q6_opens at hq
  refine lv_iload_n hx hb dX6_opens_0 rfl (lv_at hl 1 rfl) ?_
  refine lv_iconst (v := (1 : Int32)) hx hb dX6_opens_1 (by decide) ?_
  refine lv_icmp_lt (tgt := 13) hx hb dX6_opens_2 (by decide) (fun c3 => ?_) (fun c3 => ?_)
  · have hq := hq.1 c3
    refine lv_bipush (v := (-2 : Int32)) hx hb dX6_opens_13 (by decide) ?_
    exact W.iret (v := (-2 : Int32)) hx hb hr (fun t ht hW => ⟨⟨(-2 : Int32), h_opened, rfl, hq, Bw_mk (by rw [ht]; exact hP) (va_K.moved hW.alike hK) hD⟩, hS.F ht⟩) hS.2.2 dX6_opens_15
  · have hq := hq.2 c3
    refine lv_iload_n hx hb dX6_opens_5 rfl (lv_at hl 1 rfl) ?_
    refine lv_aload_n hx hb dX6_opens_6 rfl (lv_at hl 0 rfl) ?_
    refine va_get (D := (dC, dI)) (ci := 6) (v := .int h_size) (C := RX6) (T := TX6) (N := 8) hx hb hts uwX6 hown hK hP 0 rfl rfl 6 (by decide) (hts _ fl_X6_102) (fun _ h9 => h9) rfl dX6_opens_7 ?_
    refine lv_icmp_le (tgt := 16) hx hb dX6_opens_10 (by decide) (fun c4 => ?_) (fun c4 => ?_)
    · have hq := hq.1 c4
      refine lv_aload_n hx hb dX6_opens_16 rfl (lv_at hl 0 rfl) ?_
      refine va_get (D := (dC, dI)) (ci := 6) (v := .int h_opened) (C := RX6) (T := TX6) (N := 8) hx hb hts uwX6 hown hK hP 0 rfl rfl 7 (by decide) (hts _ fl_X6_140) (fun _ h9 => h9) rfl dX6_opens_17 ?_
      refine lv_istore_n (lv' := [(2, .int h_opened), (0, .ref (ah 0)), (1, .int a1)]) hx hb dX6_opens_20 rfl hl (by decide) rfl (fun ls hl => ?_)
      refine lv_aload_n hx hb dX6_opens_21 rfl (lv_at hl 1 rfl) ?_
      refine lv_iload_n hx hb dX6_opens_22 rfl (lv_at hl 2 rfl) ?_
      refine va_put (D := (dC, dI)) (ci := 6) (v := .int a1) (ty := .int) (C := RX6) (T := TX6) (N := 8) hx hb hts uwX6 tyX6 tyX6_ok nmX6 hown hK hP hD hS 0 rfl rfl 7 (by decide) (hts _ fl_X6_140) (fun _ h9 => h9) rfl (by decide +kernel) rfl rfl (Nat.le_of_ble_eq_true rfl) dX6_opens_23 (fun H locs hP hD hS => ?_)
      have hP : va_P (dC, dI) vwCl (wX6 cs ah sh al bx aw ac at_ rr ru tl h_size a1 h_tal s0_row s0_made s0_size s1_row s1_made s1_size s2_row s2_made s2_size s3_row s3_made s3_size l_len l_ways l_box w_used w_kind w_size w_left w_last w_top w_wanted c_row c_made c_size t_fac t_der t_rec t_rut t_ris) H := hP
      have hD : va_D A (wX6 cs ah sh al bx aw ac at_ rr ru tl h_size a1 h_tal s0_row s0_made s0_size s1_row s1_made s1_size s2_row s2_made s2_size s3_row s3_made s3_size l_len l_ways l_box w_used w_kind w_size w_left w_last w_top w_wanted c_row c_made c_size t_fac t_der t_rec t_rut t_ris) := hD
      refine lv_iload_n hx hb dX6_opens_26 rfl (lv_at hl 0 rfl) ?_
      exact W.iret (v := h_opened) hx hb hr (fun t ht hW => ⟨⟨h_opened, a1, rfl, hq, Bw_mk (by rw [ht]; exact hP) (va_K.moved hW.alike hK) hD⟩, hS.F ht⟩) hS.2.2 dX6_opens_27
    · have hq := hq.2 c4
      refine lv_bipush (v := (-2 : Int32)) hx hb dX6_opens_13 (by decide) ?_
      exact W.iret (v := (-2 : Int32)) hx hb hr (fun t ht hW => ⟨⟨(-2 : Int32), h_opened, rfl, hq, Bw_mk (by rw [ht]; exact hP) (va_K.moved hW.alike hK) hD⟩, hS.F ht⟩) hS.2.2 dX6_opens_15
set_option maxHeartbeats 4000000 in
set_option maxRecDepth 100000 in
theorem c6_list (l : Launch) (dC : Nat → ClassId) (dI : Nat → Nat → Nat) (cs : Nat → ClassId) (ah : Nat → Nat) (sh : Nat → Nat → Nat) (al : Nat → Nat) (bx : Nat → Nat) (aw : Nat → Nat) (ac : Nat → Nat) (at_ : Nat → Nat) (rr : Nat → Nat) (ru : Nat → Nat) (tl : va_W) (sz : Nat) (h_size : Int32) (h_opened : Int32) (h_tal : Nat → Option Nat) (s0_row : Nat → Int32) (s0_made : Nat → Int32) (s0_size : Int32) (s1_row : Nat → Int32) (s1_made : Nat → Int32) (s1_size : Int32) (s2_row : Nat → Int32) (s2_made : Nat → Int32) (s2_size : Int32) (s3_row : Nat → Int32) (s3_made : Nat → Int32) (s3_size : Int32) (l_len : Nat → Int32) (l_ways : Nat → Int64) (l_box : Nat → Nat → Int32) (w_used : Nat → Int32) (w_kind : Int32) (w_size : Int32) (w_left : Int32) (w_last : Int32) (w_top : Int32) (w_wanted : Int32) (c_row : Nat → Int32) (c_made : Nat → Int32) (c_size : Int32) (t_fac : Nat → Int64) (t_der : Nat → Int64) (t_rec : Nat → Nat → Int64) (t_rut : Nat → Nat → Int64) (t_ris : Nat → Int64) (a1 : Int32) (a2 : Int32) {Q : Int32 → (Nat → Int32) → (Nat → Nat → Int32) → Prop} (hq : q6_list h_size l_len l_box a1 a2 Q) : Met l yX6_list (.code yX6_list cX6_list 3 (some .int) :: gt) ({ frames := 3, cells := 0, slots := 0, locals := 67 } : Room) (va_Pc [.ref (ah 0), .int a1, .int a2] (Pw (dC, dI) (KA cs) (wX6 cs ah sh al bx aw ac at_ rr ru tl h_size h_opened h_tal s0_row s0_made s0_size s1_row s1_made s1_size s2_row s2_made s2_size s3_row s3_made s3_size l_len l_ways l_box w_used w_kind w_size w_left w_last w_top w_wanted c_row c_made c_size t_fac t_der t_rec t_rut t_ris) sz)) (va_Qi (fun (r : Int32) (u : (Nat → Int32) × (Nat → Nat → Int32)) => Q r u.1 u.2) (Bw (dC, dI) (KA cs) (va_A (wX6 cs ah sh al bx aw ac at_ rr ru tl h_size h_opened h_tal s0_row s0_made s0_size s1_row s1_made s1_size s2_row s2_made s2_size s3_row s3_made s3_size l_len l_ways l_box w_used w_kind w_size w_left w_last w_top w_wanted c_row c_made c_size t_fac t_der t_rec t_rut t_ris) sz) (fun u : (Nat → Int32) × (Nat → Nat → Int32) => (wX6 cs ah sh al bx aw ac at_ rr ru tl h_size h_opened h_tal s0_row s0_made s0_size s1_row s1_made s1_size s2_row s2_made s2_size s3_row s3_made s3_size u.1 l_ways u.2 w_used w_kind w_size w_left w_last w_top w_wanted c_row c_made c_size t_fac t_der t_rec t_rut t_ris))) (va_A (wX6 cs ah sh al bx aw ac at_ rr ru tl h_size h_opened h_tal s0_row s0_made s0_size s1_row s1_made s1_size s2_row s2_made s2_size s3_row s3_made s3_size l_len l_ways l_box w_used w_kind w_size w_left w_last w_top w_wanted c_row c_made c_size t_fac t_der t_rec t_rut t_ris) sz)) 0 0 (va_A (wX6 cs ah sh al bx aw ac at_ rr ru tl h_size h_opened h_tal s0_row s0_made s0_size s1_row s1_made s1_size s2_row s2_made s2_size s3_row s3_made s3_size l_len l_ways l_box w_used w_kind w_size w_left w_last w_top w_wanted c_row c_made c_size t_fac t_der t_rec t_rut t_ris) sz) := by
  refine Met.ofW (cc := cX6_list) (maxL := 3) (ret := (some .int)) (by decide) rfl ?_
  intro p e s m args below meth c s₁ B hml hv
  obtain ⟨rfl, hsz, hP, hK, hD0, hN⟩ := hv
  have hx := B.exec
  have hb := B.bytes
  have hr := B.returns
  have hts0 := atoms_spec (ws := (.code yX6_list cX6_list 3 (some .int) :: gt)) B.pre
  have hts : ∀ w ∈ gt, w.before _ s = true := fun w h => hts0 w (List.mem_cons_of_mem _ h)
  have hown : s.vm.findClass RX6 = some m.cls := findClass_of_methodNamed B.named
  have hlocks := B.notSynchronized
  subst hsz
  have hD := hD0.self (sz := s.heap.size)
  generalize hAe : va_A (wX6 cs ah sh al bx aw ac at_ rr ru tl h_size h_opened h_tal s0_row s0_made s0_size s1_row s1_made s1_size s2_row s2_made s2_size s3_row s3_made s3_size l_len l_ways l_box w_used w_kind w_size w_left w_last w_top w_wanted c_row c_made c_size t_fac t_der t_rec t_rut t_ris) s.heap.size = A at hD ⊢
  have hA : ∀ q : Nat, s.heap.size ≤ q → A q := fun q h => by rw [← hAe]; exact Or.inr h
  have hS : va_S A s.heap s.heap [] := va_S.rf
  have hl := lv_entry ([.ref (ah 0), .int a1, .int a2]) (n := 3) (Nat.le_of_ble_eq_true rfl)
  rw [lg_entry_eq]
  generalize (lg_sl ([.ref (ah 0), .int a1, .int a2]) ++ List.replicate (3 - (lg_sl ([.ref (ah 0), .int a1, .int a2])).length) Slot.unset).toArray = ls at hl ⊢
  have hl : lv_has ls 3 [(0, .ref (ah 0)), (1, .int a1), (2, .int a2)] := hl
  unfold q6_list at hq
  refine lv_aload_n hx hb dX6_list_0 rfl (lv_at hl 0 rfl) ?_
  refine lv_iload_n hx hb dX6_list_1 rfl (lv_at hl 1 rfl) ?_
  refine roi (runV ⟨hx, hb, hml, hown, hts⟩ wf_X6_isThing ml_X6_57 (c6_isThing l dC dI cs ah sh al bx aw ac at_ rr ru tl h_size h_opened h_tal s0_row s0_made s0_size s1_row s1_made s1_size s2_row s2_made s2_size s3_row s3_made s3_size l_len l_ways l_box w_used w_kind w_size w_left w_last w_top w_wanted c_row c_made c_size t_fac t_der t_rec t_rut t_ris a1 hq) ⟨⟨rfl, rfl⟩, by decide, by decide⟩ (preR hP hK hN) hK hP rfl 0 rfl rfl hl.1 rfl (Nat.le_of_ble_eq_true rfl) dX6_list_2 ⟨(Nat.le_of_ble_eq_true rfl), (Nat.le_of_ble_eq_true rfl)⟩) (fun r11 hq => ?_)
  refine lv_if_eq (tgt := 16) hx hb dX6_list_5 (by decide) (fun c12 => ?_) (fun c12 => ?_)
  · have hq := hq.1 c12
    refine lv_bipush (v := (-2 : Int32)) hx hb dX6_list_16 (by decide) ?_
    exact W.iret (v := (-2 : Int32)) hx hb hr (fun t ht hW => ⟨⟨(-2 : Int32), (l_len, l_box), rfl, hq, Bw_mk (by rw [ht]; exact hP) (va_K.moved hW.alike hK) hD⟩, hS.F ht⟩) hS.2.2 dX6_list_18
  · have hq := hq.2 c12
    refine lv_aload_n hx hb dX6_list_8 rfl (lv_at hl 0 rfl) ?_
    refine lv_iload_n hx hb dX6_list_9 rfl (lv_at hl 2 rfl) ?_
    refine roi (runV ⟨hx, hb, hml, hown, hts⟩ wf_X6_isThing ml_X6_57 (c6_isThing l dC dI cs ah sh al bx aw ac at_ rr ru tl h_size h_opened h_tal s0_row s0_made s0_size s1_row s1_made s1_size s2_row s2_made s2_size s3_row s3_made s3_size l_len l_ways l_box w_used w_kind w_size w_left w_last w_top w_wanted c_row c_made c_size t_fac t_der t_rec t_rut t_ris a2 hq) ⟨⟨rfl, rfl⟩, by decide, by decide⟩ (preR hP hK hN) hK hP rfl 0 rfl rfl hl.1 rfl (Nat.le_of_ble_eq_true rfl) dX6_list_10 ⟨(Nat.le_of_ble_eq_true rfl), (Nat.le_of_ble_eq_true rfl)⟩) (fun r13 hq => ?_)
    refine lv_if_ne (tgt := 19) hx hb dX6_list_13 (by decide) (fun c14 => ?_) (fun c14 => ?_)
    · have hq := hq.1 c14
      refine lv_aload_n hx hb dX6_list_19 rfl (lv_at hl 0 rfl) ?_
      refine va_get (D := (dC, dI)) (ci := 6) (v := .ref (al 0)) (C := RX6) (T := TX6) (N := 8) hx hb hts uwX6 hown hK hP 0 rfl rfl 2 (by decide) (hts _ fl_X6_23) (fun _ h9 => h9) rfl dX6_list_20 ?_
      refine lv_iload_n hx hb dX6_list_23 rfl (lv_at hl 1 rfl) ?_
      refine lv_iload_n hx hb dX6_list_24 rfl (lv_at hl 2 rfl) ?_
      refine roi (runV ⟨hx, hb, hml, hown, hts⟩ wf_X0_hasBox ml_X6_143 (c0_hasBox l dC dI cs al bx l_len l_ways l_box a1 a2 hq) ⟨⟨rfl, rfl⟩, by decide, by decide⟩ (preR (hP.sub (ws' := wX0 cs al bx l_len l_ways l_box) [15, 16, 17, 18, 19, 20, 21, 22, 23, 24, 25, 26, 27, 28, 29, 30, 31, 32, 33, 34, 35, 36] rfl) hK hN) hK hP rfl 15 rfl rfl hl.1 rfl (Nat.le_of_ble_eq_true rfl) dX6_list_25 ⟨(Nat.le_of_ble_eq_true rfl), (Nat.le_of_ble_eq_true rfl)⟩) (fun r15 hq => ?_)
      refine lv_if_eq (tgt := 36) hx hb dX6_list_28 (by decide) (fun c16 => ?_) (fun c16 => ?_)
      · have hq := hq.1 c16
        refine lv_aload_n hx hb dX6_list_36 rfl (lv_at hl 0 rfl) ?_
        refine va_get (D := (dC, dI)) (ci := 6) (v := .ref (al 0)) (C := RX6) (T := TX6) (N := 8) hx hb hts uwX6 hown hK hP 0 rfl rfl 2 (by decide) (hts _ fl_X6_23) (fun _ h9 => h9) rfl dX6_list_37 ?_
        refine lv_iload_n hx hb dX6_list_40 rfl (lv_at hl 1 rfl) ?_
        refine lv_iload_n hx hb dX6_list_41 rfl (lv_at hl 2 rfl) ?_
        refine jwi (runV ⟨hx, hb, hml, hown, hts⟩ wf_X0_addBox ml_X6_147 (c0_addBox l dC dI cs al bx _ l_len l_ways l_box a1 a2 hq) ⟨⟨rfl, rfl⟩, by decide, by decide⟩ (preW (hP.sub (ws' := wX0 cs al bx l_len l_ways l_box) [15, 16, 17, 18, 19, 20, 21, 22, 23, 24, 25, 26, 27, 28, 29, 30, 31, 32, 33, 34, 35, 36] rfl) hK hN (hD.sub (ws' := wX0 cs al bx l_len l_ways l_box) [15, 16, 17, 18, 19, 20, 21, 22, 23, 24, 25, 26, 27, 28, 29, 30, 31, 32, 33, 34, 35, 36] (by decide) rfl)) hK hP rfl 15 rfl rfl hl.1 rfl (Nat.le_of_ble_eq_true rfl) dX6_list_42 ⟨(Nat.le_of_ble_eq_true rfl), (Nat.le_of_ble_eq_true rfl)⟩) hP hD hS hA 15 37 rfl (fun r17 u20 H locs hq hP hD hS => ?_)
        obtain ⟨l_len_18, l_box_19⟩ := u20
        try dsimp only at hq
        have hP : va_P (dC, dI) vwCl (wX6 cs ah sh al bx aw ac at_ rr ru tl h_size h_opened h_tal s0_row s0_made s0_size s1_row s1_made s1_size s2_row s2_made s2_size s3_row s3_made s3_size l_len_18 l_ways l_box_19 w_used w_kind w_size w_left w_last w_top w_wanted c_row c_made c_size t_fac t_der t_rec t_rut t_ris) H := hP
        have hD : va_D A (wX6 cs ah sh al bx aw ac at_ rr ru tl h_size h_opened h_tal s0_row s0_made s0_size s1_row s1_made s1_size s2_row s2_made s2_size s3_row s3_made s3_size l_len_18 l_ways l_box_19 w_used w_kind w_size w_left w_last w_top w_wanted c_row c_made c_size t_fac t_der t_rec t_rut t_ris) := hD
        exact W.iret (v := r17) hx hb hr (fun t ht hW => ⟨⟨r17, (l_len_18, l_box_19), rfl, hq, Bw_mk (by rw [ht]; exact hP) (va_K.moved hW.alike hK) hD⟩, hS.F ht⟩) hS.2.2 dX6_list_45
      · have hq := hq.2 c16
        refine lv_bipush (v := (-4 : Int32)) hx hb dX6_list_31 (by decide) ?_
        refine lv_goto (tgt := 45) hx hb dX6_list_33 (by decide) ?_
        exact W.iret (v := (-4 : Int32)) hx hb hr (fun t ht hW => ⟨⟨(-4 : Int32), (l_len, l_box), rfl, hq, Bw_mk (by rw [ht]; exact hP) (va_K.moved hW.alike hK) hD⟩, hS.F ht⟩) hS.2.2 dX6_list_45
    · have hq := hq.2 c14
      refine lv_bipush (v := (-2 : Int32)) hx hb dX6_list_16 (by decide) ?_
      exact W.iret (v := (-2 : Int32)) hx hb hr (fun t ht hW => ⟨⟨(-2 : Int32), (l_len, l_box), rfl, hq, Bw_mk (by rw [ht]; exact hP) (va_K.moved hW.alike hK) hD⟩, hS.F ht⟩) hS.2.2 dX6_list_18
set_option maxHeartbeats 4000000 in
set_option maxRecDepth 100000 in
theorem c6_forget (l : Launch) (dC : Nat → ClassId) (dI : Nat → Nat → Nat) (cs : Nat → ClassId) (ah : Nat → Nat) (sh : Nat → Nat → Nat) (al : Nat → Nat) (bx : Nat → Nat) (aw : Nat → Nat) (ac : Nat → Nat) (at_ : Nat → Nat) (rr : Nat → Nat) (ru : Nat → Nat) (tl : va_W) (sz : Nat) (h_size : Int32) (h_opened : Int32) (h_tal : Nat → Option Nat) (s0_row : Nat → Int32) (s0_made : Nat → Int32) (s0_size : Int32) (s1_row : Nat → Int32) (s1_made : Nat → Int32) (s1_size : Int32) (s2_row : Nat → Int32) (s2_made : Nat → Int32) (s2_size : Int32) (s3_row : Nat → Int32) (s3_made : Nat → Int32) (s3_size : Int32) (l_len : Nat → Int32) (l_ways : Nat → Int64) (l_box : Nat → Nat → Int32) (w_used : Nat → Int32) (w_kind : Int32) (w_size : Int32) (w_left : Int32) (w_last : Int32) (w_top : Int32) (w_wanted : Int32) (c_row : Nat → Int32) (c_made : Nat → Int32) (c_size : Int32) (t_fac : Nat → Int64) (t_der : Nat → Int64) (t_rec : Nat → Nat → Int64) (t_rut : Nat → Nat → Int64) (t_ris : Nat → Int64) (a1 : Int32) {Q : Int32 → (Nat → Int32) → Prop} (hq : q6_forget h_size l_len a1 Q) : Met l yX6_forget (.code yX6_forget cX6_forget 2 (some .int) :: gt) ({ frames := 2, cells := 0, slots := 0, locals := 43 } : Room) (va_Pc [.ref (ah 0), .int a1] (Pw (dC, dI) (KA cs) (wX6 cs ah sh al bx aw ac at_ rr ru tl h_size h_opened h_tal s0_row s0_made s0_size s1_row s1_made s1_size s2_row s2_made s2_size s3_row s3_made s3_size l_len l_ways l_box w_used w_kind w_size w_left w_last w_top w_wanted c_row c_made c_size t_fac t_der t_rec t_rut t_ris) sz)) (va_Qi (fun (r : Int32) (u : (Nat → Int32)) => Q r u) (Bw (dC, dI) (KA cs) (va_A (wX6 cs ah sh al bx aw ac at_ rr ru tl h_size h_opened h_tal s0_row s0_made s0_size s1_row s1_made s1_size s2_row s2_made s2_size s3_row s3_made s3_size l_len l_ways l_box w_used w_kind w_size w_left w_last w_top w_wanted c_row c_made c_size t_fac t_der t_rec t_rut t_ris) sz) (fun u : (Nat → Int32) => (wX6 cs ah sh al bx aw ac at_ rr ru tl h_size h_opened h_tal s0_row s0_made s0_size s1_row s1_made s1_size s2_row s2_made s2_size s3_row s3_made s3_size u l_ways l_box w_used w_kind w_size w_left w_last w_top w_wanted c_row c_made c_size t_fac t_der t_rec t_rut t_ris))) (va_A (wX6 cs ah sh al bx aw ac at_ rr ru tl h_size h_opened h_tal s0_row s0_made s0_size s1_row s1_made s1_size s2_row s2_made s2_size s3_row s3_made s3_size l_len l_ways l_box w_used w_kind w_size w_left w_last w_top w_wanted c_row c_made c_size t_fac t_der t_rec t_rut t_ris) sz)) 0 0 (va_A (wX6 cs ah sh al bx aw ac at_ rr ru tl h_size h_opened h_tal s0_row s0_made s0_size s1_row s1_made s1_size s2_row s2_made s2_size s3_row s3_made s3_size l_len l_ways l_box w_used w_kind w_size w_left w_last w_top w_wanted c_row c_made c_size t_fac t_der t_rec t_rut t_ris) sz) := by
  refine Met.ofW (cc := cX6_forget) (maxL := 2) (ret := (some .int)) (by decide) rfl ?_
  intro p e s m args below meth c s₁ B hml hv
  obtain ⟨rfl, hsz, hP, hK, hD0, hN⟩ := hv
  have hx := B.exec
  have hb := B.bytes
  have hr := B.returns
  have hts0 := atoms_spec (ws := (.code yX6_forget cX6_forget 2 (some .int) :: gt)) B.pre
  have hts : ∀ w ∈ gt, w.before _ s = true := fun w h => hts0 w (List.mem_cons_of_mem _ h)
  have hown : s.vm.findClass RX6 = some m.cls := findClass_of_methodNamed B.named
  have hlocks := B.notSynchronized
  subst hsz
  have hD := hD0.self (sz := s.heap.size)
  generalize hAe : va_A (wX6 cs ah sh al bx aw ac at_ rr ru tl h_size h_opened h_tal s0_row s0_made s0_size s1_row s1_made s1_size s2_row s2_made s2_size s3_row s3_made s3_size l_len l_ways l_box w_used w_kind w_size w_left w_last w_top w_wanted c_row c_made c_size t_fac t_der t_rec t_rut t_ris) s.heap.size = A at hD ⊢
  have hA : ∀ q : Nat, s.heap.size ≤ q → A q := fun q h => by rw [← hAe]; exact Or.inr h
  have hS : va_S A s.heap s.heap [] := va_S.rf
  have hl := lv_entry ([.ref (ah 0), .int a1]) (n := 2) (Nat.le_of_ble_eq_true rfl)
  rw [lg_entry_eq]
  generalize (lg_sl ([.ref (ah 0), .int a1]) ++ List.replicate (2 - (lg_sl ([.ref (ah 0), .int a1])).length) Slot.unset).toArray = ls at hl ⊢
  have hl : lv_has ls 2 [(0, .ref (ah 0)), (1, .int a1)] := hl
  unfold q6_forget at hq
  refine lv_aload_n hx hb dX6_forget_0 rfl (lv_at hl 0 rfl) ?_
  refine lv_iload_n hx hb dX6_forget_1 rfl (lv_at hl 1 rfl) ?_
  refine roi (runV ⟨hx, hb, hml, hown, hts⟩ wf_X6_isThing ml_X6_57 (c6_isThing l dC dI cs ah sh al bx aw ac at_ rr ru tl h_size h_opened h_tal s0_row s0_made s0_size s1_row s1_made s1_size s2_row s2_made s2_size s3_row s3_made s3_size l_len l_ways l_box w_used w_kind w_size w_left w_last w_top w_wanted c_row c_made c_size t_fac t_der t_rec t_rut t_ris a1 hq) ⟨⟨rfl, rfl⟩, by decide, by decide⟩ (preR hP hK hN) hK hP rfl 0 rfl rfl hl.1 rfl (Nat.le_of_ble_eq_true rfl) dX6_forget_2 ⟨(Nat.le_of_ble_eq_true rfl), (Nat.le_of_ble_eq_true rfl)⟩) (fun r6 hq => ?_)
  refine lv_if_eq (tgt := 19) hx hb dX6_forget_5 (by decide) (fun c7 => ?_) (fun c7 => ?_)
  · have hq := hq.1 c7
    refine lv_bipush (v := (-2 : Int32)) hx hb dX6_forget_19 (by decide) ?_
    exact W.iret (v := (-2 : Int32)) hx hb hr (fun t ht hW => ⟨⟨(-2 : Int32), l_len, rfl, hq, Bw_mk (by rw [ht]; exact hP) (va_K.moved hW.alike hK) hD⟩, hS.F ht⟩) hS.2.2 dX6_forget_21
  · have hq := hq.2 c7
    refine lv_aload_n hx hb dX6_forget_8 rfl (lv_at hl 0 rfl) ?_
    refine va_get (D := (dC, dI)) (ci := 6) (v := .ref (al 0)) (C := RX6) (T := TX6) (N := 8) hx hb hts uwX6 hown hK hP 0 rfl rfl 2 (by decide) (hts _ fl_X6_23) (fun _ h9 => h9) rfl dX6_forget_9 ?_
    refine lv_iload_n hx hb dX6_forget_12 rfl (lv_at hl 1 rfl) ?_
    refine jwi (runV ⟨hx, hb, hml, hown, hts⟩ wf_X0_emptyOne ml_X6_151 (c0_emptyOne l dC dI cs al bx _ l_len l_ways l_box a1 hq) ⟨⟨rfl, rfl⟩, by decide, by decide⟩ (preW (hP.sub (ws' := wX0 cs al bx l_len l_ways l_box) [15, 16, 17, 18, 19, 20, 21, 22, 23, 24, 25, 26, 27, 28, 29, 30, 31, 32, 33, 34, 35, 36] rfl) hK hN (hD.sub (ws' := wX0 cs al bx l_len l_ways l_box) [15, 16, 17, 18, 19, 20, 21, 22, 23, 24, 25, 26, 27, 28, 29, 30, 31, 32, 33, 34, 35, 36] (by decide) rfl)) hK hP rfl 15 rfl rfl hl.1 rfl (Nat.le_of_ble_eq_true rfl) dX6_forget_13 ⟨(Nat.le_of_ble_eq_true rfl), (Nat.le_of_ble_eq_true rfl)⟩) hP hD hS hA 15 37 rfl (fun r8 l_len_9 H locs hq hP hD hS => ?_)
    have hP : va_P (dC, dI) vwCl (wX6 cs ah sh al bx aw ac at_ rr ru tl h_size h_opened h_tal s0_row s0_made s0_size s1_row s1_made s1_size s2_row s2_made s2_size s3_row s3_made s3_size l_len_9 l_ways l_box w_used w_kind w_size w_left w_last w_top w_wanted c_row c_made c_size t_fac t_der t_rec t_rut t_ris) H := hP
    have hD : va_D A (wX6 cs ah sh al bx aw ac at_ rr ru tl h_size h_opened h_tal s0_row s0_made s0_size s1_row s1_made s1_size s2_row s2_made s2_size s3_row s3_made s3_size l_len_9 l_ways l_box w_used w_kind w_size w_left w_last w_top w_wanted c_row c_made c_size t_fac t_der t_rec t_rut t_ris) := hD
    refine lv_goto (tgt := 21) hx hb dX6_forget_16 (by decide) ?_
    exact W.iret (v := r8) hx hb hr (fun t ht hW => ⟨⟨r8, l_len_9, rfl, hq, Bw_mk (by rw [ht]; exact hP) (va_K.moved hW.alike hK) hD⟩, hS.F ht⟩) hS.2.2 dX6_forget_21
set_option maxHeartbeats 4000000 in
set_option maxRecDepth 100000 in
theorem c6_wins (l : Launch) (dC : Nat → ClassId) (dI : Nat → Nat → Nat) (cs : Nat → ClassId) (ah : Nat → Nat) (sh : Nat → Nat → Nat) (al : Nat → Nat) (bx : Nat → Nat) (aw : Nat → Nat) (ac : Nat → Nat) (at_ : Nat → Nat) (rr : Nat → Nat) (ru : Nat → Nat) (tl : va_W) (h_size : Int32) (h_opened : Int32) (h_tal : Nat → Option Nat) (s0_row : Nat → Int32) (s0_made : Nat → Int32) (s0_size : Int32) (s1_row : Nat → Int32) (s1_made : Nat → Int32) (s1_size : Int32) (s2_row : Nat → Int32) (s2_made : Nat → Int32) (s2_size : Int32) (s3_row : Nat → Int32) (s3_made : Nat → Int32) (s3_size : Int32) (l_len : Nat → Int32) (l_ways : Nat → Int64) (l_box : Nat → Nat → Int32) (w_used : Nat → Int32) (w_kind : Int32) (w_size : Int32) (w_left : Int32) (w_last : Int32) (w_top : Int32) (w_wanted : Int32) (c_row : Nat → Int32) (c_made : Nat → Int32) (c_size : Int32) (t_fac : Nat → Int64) (t_der : Nat → Int64) (t_rec : Nat → Nat → Int64) (t_rut : Nat → Nat → Int64) (t_ris : Nat → Int64) (a1 : Int32) (a2 : Int32) {Q : Int32 → Prop} (hq : q6_wins h_size h_opened l_len l_box c_row c_size a1 a2 Q) : Met l yX6_wins (.code yX6_wins cX6_wins 4 (some .int) :: gt) ({ frames := 3, cells := 0, slots := 0, locals := 68 } : Room) (va_Pc [.ref (ah 0), .int a1, .int a2] (Pr (dC, dI) (KA cs) (wX6 cs ah sh al bx aw ac at_ rr ru tl h_size h_opened h_tal s0_row s0_made s0_size s1_row s1_made s1_size s2_row s2_made s2_size s3_row s3_made s3_size l_len l_ways l_box w_used w_kind w_size w_left w_last w_top w_wanted c_row c_made c_size t_fac t_der t_rec t_rut t_ris))) (vp_Si Q) 0 0 (fun _ => False) := by
  refine Met.ofW (cc := cX6_wins) (maxL := 4) (ret := (some .int)) (by decide) rfl ?_
  intro p e s m args below meth c s₁ B hml hv
  obtain ⟨rfl, hP, hK, hN⟩ := hv
  have hx := B.exec
  have hb := B.bytes
  have hr := B.returns
  have hts0 := atoms_spec (ws := (.code yX6_wins cX6_wins 4 (some .int) :: gt)) B.pre
  have hts : ∀ w ∈ gt, w.before _ s = true := fun w h => hts0 w (List.mem_cons_of_mem _ h)
  have hown : s.vm.findClass RX6 = some m.cls := findClass_of_methodNamed B.named
  have hlocks := B.notSynchronized
  have hl := lv_entry ([.ref (ah 0), .int a1, .int a2]) (n := 4) (Nat.le_of_ble_eq_true rfl)
  rw [lg_entry_eq]
  generalize (lg_sl ([.ref (ah 0), .int a1, .int a2]) ++ List.replicate (4 - (lg_sl ([.ref (ah 0), .int a1, .int a2])).length) Slot.unset).toArray = ls at hl ⊢
  have hl : lv_has ls 4 [(0, .ref (ah 0)), (1, .int a1), (2, .int a2)] := hl
  have B61 : ∀ (s0 : Int32) (ls : Array Slot), q6_wins_61 h_size h_opened l_len l_box c_row c_size Q s0 → lv_has ls 4 [(0, .ref (ah 0))] → W p l e ({ frames := 3, cells := 0, slots := 0, locals := 68 } : Room) s m ([.ref (ah 0), .int a1, .int a2] : List Value).toArray below meth c s.heap [] 0 0 (MQ below (vp_Si Q) ([.ref (ah 0), .int a1, .int a2] : List Value).toArray s 0 0 (fun _ => False)) (F0 m 61 ls [.int s0]) := by
    intro s0 ls hq hl
    unfold q6_wins_61 at hq
    refine lv_istore_n (lv' := [(3, .int s0), (0, .ref (ah 0))]) hx hb dX6_wins_61 rfl hl (by decide) rfl (fun ls hl => ?_)
    refine lv_iload_n hx hb dX6_wins_62 rfl (lv_at hl 0 rfl) ?_
    refine lv_if_eq (tgt := 70) hx hb dX6_wins_63 (by decide) (fun c10 => ?_) (fun c10 => ?_)
    · have hq := hq.1 c10
      refine lv_iconst (v := (0 : Int32)) hx hb dX6_wins_70 (by decide) ?_
      exact W.iret (v := (0 : Int32)) hx hb hr (fun t ht hW => ⟨(0 : Int32), rfl, hq, ht⟩) (fun q h => absurd h List.not_mem_nil) dX6_wins_71
    · have hq := hq.2 c10
      refine lv_iconst (v := (1 : Int32)) hx hb dX6_wins_66 (by decide) ?_
      refine lv_goto (tgt := 71) hx hb dX6_wins_67 (by decide) ?_
      exact W.iret (v := (1 : Int32)) hx hb hr (fun t ht hW => ⟨(1 : Int32), rfl, hq, ht⟩) (fun q h => absurd h List.not_mem_nil) dX6_wins_71
  unfold q6_wins at hq
  refine lv_iload_n hx hb dX6_wins_0 rfl (lv_at hl 1 rfl) ?_
  refine roi (runS ⟨hx, hb, hml, hown, hts⟩ ws_X6_isWay ml_X6_154 (c6_isWay l dC dI cs   a1 hq) ⟨⟨rfl, rfl⟩, by decide, by decide⟩ (preR va_P_nil hK hN) hN rfl hl.1 rfl (Nat.le_of_ble_eq_true rfl) dX6_wins_1 ⟨(Nat.le_of_ble_eq_true rfl), (Nat.le_of_ble_eq_true rfl)⟩) (fun r11 hq => ?_)
  refine lv_if_eq (tgt := 15) hx hb dX6_wins_4 (by decide) (fun c12 => ?_) (fun c12 => ?_)
  · have hq := hq.1 c12
    refine lv_bipush (v := (-2 : Int32)) hx hb dX6_wins_15 (by decide) ?_
    exact W.iret (v := (-2 : Int32)) hx hb hr (fun t ht hW => ⟨(-2 : Int32), rfl, hq, ht⟩) (fun q h => absurd h List.not_mem_nil) dX6_wins_17
  · have hq := hq.2 c12
    refine lv_aload_n hx hb dX6_wins_7 rfl (lv_at hl 0 rfl) ?_
    refine lv_iload_n hx hb dX6_wins_8 rfl (lv_at hl 2 rfl) ?_
    refine roi (runV ⟨hx, hb, hml, hown, hts⟩ wf_X6_isThing ml_X6_57 (c6_isThing l dC dI cs ah sh al bx aw ac at_ rr ru tl h_size h_opened h_tal s0_row s0_made s0_size s1_row s1_made s1_size s2_row s2_made s2_size s3_row s3_made s3_size l_len l_ways l_box w_used w_kind w_size w_left w_last w_top w_wanted c_row c_made c_size t_fac t_der t_rec t_rut t_ris a2 hq) ⟨⟨rfl, rfl⟩, by decide, by decide⟩ (preR hP hK hN) hK hP rfl 0 rfl rfl hl.1 rfl (Nat.le_of_ble_eq_true rfl) dX6_wins_9 ⟨(Nat.le_of_ble_eq_true rfl), (Nat.le_of_ble_eq_true rfl)⟩) (fun r13 hq => ?_)
    refine lv_if_ne (tgt := 18) hx hb dX6_wins_12 (by decide) (fun c14 => ?_) (fun c14 => ?_)
    · have hq := hq.1 c14
      refine lv_iload_n hx hb dX6_wins_18 rfl (lv_at hl 1 rfl) ?_
      refine lv_if_ne (tgt := 45) hx hb dX6_wins_19 (by decide) (fun c15 => ?_) (fun c15 => ?_)
      · have hq := hq.1 c15
        refine lv_aload_n hx hb dX6_wins_45 rfl (lv_at hl 0 rfl) ?_
        refine va_get (D := (dC, dI)) (ci := 6) (v := .ref (al 0)) (C := RX6) (T := TX6) (N := 8) hx hb hts uwX6 hown hK hP 0 rfl rfl 2 (by decide) (hts _ fl_X6_23) (fun _ h9 => h9) rfl dX6_wins_46 ?_
        refine lv_iload_n hx hb dX6_wins_49 rfl (lv_at hl 2 rfl) ?_
        refine lv_aload_n hx hb dX6_wins_50 rfl (lv_at hl 0 rfl) ?_
        refine va_get (D := (dC, dI)) (ci := 6) (v := .int h_opened) (C := RX6) (T := TX6) (N := 8) hx hb hts uwX6 hown hK hP 0 rfl rfl 7 (by decide) (hts _ fl_X6_140) (fun _ h9 => h9) rfl dX6_wins_51 ?_
        refine lv_aload_n hx hb dX6_wins_54 rfl (lv_at hl 0 rfl) ?_
        refine va_get (D := (dC, dI)) (ci := 6) (v := .ref (ac 0)) (C := RX6) (T := TX6) (N := 8) hx hb hts uwX6 hown hK hP 0 rfl rfl 0 (by decide) (hts _ fl_X6_10) (fun _ h9 => h9) rfl dX6_wins_55 ?_
        refine roi (runV ⟨hx, hb, hml, hown, hts⟩ wf_X0_findsOwnThing ml_X6_160 (c0_findsOwnThing l dC dI cs al bx ac l_len l_ways l_box c_row c_made c_size a2 h_opened hq) ⟨⟨rfl, rfl⟩, by decide, by decide⟩ (preR (va_P_app (hP.sub (ws' := wX0 cs al bx l_len l_ways l_box) [15, 16, 17, 18, 19, 20, 21, 22, 23, 24, 25, 26, 27, 28, 29, 30, 31, 32, 33, 34, 35, 36] rfl) (hP.sub (ws' := wX1p cs ac c_row c_made c_size) [39, 40, 41] rfl)) hK hN) hK hP rfl 15 rfl rfl hl.1 rfl (Nat.le_of_ble_eq_true rfl) dX6_wins_58 ⟨(Nat.le_of_ble_eq_true rfl), (Nat.le_of_ble_eq_true rfl)⟩) (fun r16 hq => ?_)
        exact B61 r16 _ hq (lv_sub hl [0] rfl)
      · have hq := hq.2 c15
        refine lv_aload_n hx hb dX6_wins_22 rfl (lv_at hl 0 rfl) ?_
        refine va_get (D := (dC, dI)) (ci := 6) (v := .ref (ac 0)) (C := RX6) (T := TX6) (N := 8) hx hb hts uwX6 hown hK hP 0 rfl rfl 0 (by decide) (hts _ fl_X6_10) (fun _ h9 => h9) rfl dX6_wins_23 ?_
        refine lv_iload_n hx hb dX6_wins_26 rfl (lv_at hl 2 rfl) ?_
        refine roi (runV ⟨hx, hb, hml, hown, hts⟩ wf_X1_roundLength ml_X6_157 (c1_roundLength l dC dI cs ac c_row c_made c_size a2 hq) ⟨⟨rfl, rfl⟩, by decide, by decide⟩ (preR (hP.sub (ws' := wX1 cs ac c_row c_made c_size) [39, 40, 41] rfl) hK hN) hK hP rfl 39 rfl rfl hl.1 rfl (Nat.le_of_ble_eq_true rfl) dX6_wins_27 ⟨(Nat.le_of_ble_eq_true rfl), (Nat.le_of_ble_eq_true rfl)⟩) (fun r17 hq => ?_)
        refine lv_aload_n hx hb dX6_wins_30 rfl (lv_at hl 0 rfl) ?_
        refine va_get (D := (dC, dI)) (ci := 6) (v := .int h_opened) (C := RX6) (T := TX6) (N := 8) hx hb hts uwX6 hown hK hP 0 rfl rfl 7 (by decide) (hts _ fl_X6_140) (fun _ h9 => h9) rfl dX6_wins_31 ?_
        refine lv_icmp_gt (tgt := 41) hx hb dX6_wins_34 (by decide) (fun c18 => ?_) (fun c18 => ?_)
        · have hq := hq.1 c18
          refine lv_iconst (v := (0 : Int32)) hx hb dX6_wins_41 (by decide) ?_
          refine lv_goto (tgt := 61) hx hb dX6_wins_42 (by decide) ?_
          exact B61 (0 : Int32) _ hq (lv_sub hl [0] rfl)
        · have hq := hq.2 c18
          refine lv_iconst (v := (1 : Int32)) hx hb dX6_wins_37 (by decide) ?_
          refine lv_goto (tgt := 61) hx hb dX6_wins_38 (by decide) ?_
          exact B61 (1 : Int32) _ hq (lv_sub hl [0] rfl)
    · have hq := hq.2 c14
      refine lv_bipush (v := (-2 : Int32)) hx hb dX6_wins_15 (by decide) ?_
      exact W.iret (v := (-2 : Int32)) hx hb hr (fun t ht hW => ⟨(-2 : Int32), rfl, hq, ht⟩) (fun q h => absurd h List.not_mem_nil) dX6_wins_17
set_option maxHeartbeats 4000000 in
set_option maxRecDepth 100000 in
theorem c6_allWin (l : Launch) (dC : Nat → ClassId) (dI : Nat → Nat → Nat) (cs : Nat → ClassId) (ah : Nat → Nat) (sh : Nat → Nat → Nat) (al : Nat → Nat) (bx : Nat → Nat) (aw : Nat → Nat) (ac : Nat → Nat) (at_ : Nat → Nat) (rr : Nat → Nat) (ru : Nat → Nat) (tl : va_W) (sz : Nat) (h_size : Int32) (h_opened : Int32) (h_tal : Nat → Option Nat) (s0_row : Nat → Int32) (s0_made : Nat → Int32) (s0_size : Int32) (s1_row : Nat → Int32) (s1_made : Nat → Int32) (s1_size : Int32) (s2_row : Nat → Int32) (s2_made : Nat → Int32) (s2_size : Int32) (s3_row : Nat → Int32) (s3_made : Nat → Int32) (s3_size : Int32) (l_len : Nat → Int32) (l_ways : Nat → Int64) (l_box : Nat → Nat → Int32) (w_used : Nat → Int32) (w_kind : Int32) (w_size : Int32) (w_left : Int32) (w_last : Int32) (w_top : Int32) (w_wanted : Int32) (c_row : Nat → Int32) (c_made : Nat → Int32) (c_size : Int32) (t_fac : Nat → Int64) (t_der : Nat → Int64) (t_rec : Nat → Nat → Int64) (t_rut : Nat → Nat → Int64) (t_ris : Nat → Int64) (a1 : Int32) {Q : Int64 → (Nat → Int64) → Prop} (hq : q6_allWin h_size h_opened l_len l_box t_rut l_ways a1 Q) : Met l yX6_allWin (.code yX6_allWin cX6_allWin 2 (some .long) :: gt) ({ frames := 4, cells := 0, slots := 0, locals := 94 } : Room) (va_Pc [.ref (ah 0), .int a1] (Pw (dC, dI) (KA cs) (wX6 cs ah sh al bx aw ac at_ rr ru tl h_size h_opened h_tal s0_row s0_made s0_size s1_row s1_made s1_size s2_row s2_made s2_size s3_row s3_made s3_size l_len l_ways l_box w_used w_kind w_size w_left w_last w_top w_wanted c_row c_made c_size t_fac t_der t_rec t_rut t_ris) sz)) (va_Ql (fun (r : Int64) (u : (Nat → Int64)) => Q r u) (Bw (dC, dI) (KA cs) (va_A (wX6 cs ah sh al bx aw ac at_ rr ru tl h_size h_opened h_tal s0_row s0_made s0_size s1_row s1_made s1_size s2_row s2_made s2_size s3_row s3_made s3_size l_len l_ways l_box w_used w_kind w_size w_left w_last w_top w_wanted c_row c_made c_size t_fac t_der t_rec t_rut t_ris) sz) (fun u : (Nat → Int64) => (wX6 cs ah sh al bx aw ac at_ rr ru tl h_size h_opened h_tal s0_row s0_made s0_size s1_row s1_made s1_size s2_row s2_made s2_size s3_row s3_made s3_size l_len u l_box w_used w_kind w_size w_left w_last w_top w_wanted c_row c_made c_size t_fac t_der t_rec t_rut t_ris))) (va_A (wX6 cs ah sh al bx aw ac at_ rr ru tl h_size h_opened h_tal s0_row s0_made s0_size s1_row s1_made s1_size s2_row s2_made s2_size s3_row s3_made s3_size l_len l_ways l_box w_used w_kind w_size w_left w_last w_top w_wanted c_row c_made c_size t_fac t_der t_rec t_rut t_ris) sz)) 0 0 (va_A (wX6 cs ah sh al bx aw ac at_ rr ru tl h_size h_opened h_tal s0_row s0_made s0_size s1_row s1_made s1_size s2_row s2_made s2_size s3_row s3_made s3_size l_len l_ways l_box w_used w_kind w_size w_left w_last w_top w_wanted c_row c_made c_size t_fac t_der t_rec t_rut t_ris) sz) := by
  refine Met.ofW (cc := cX6_allWin) (maxL := 2) (ret := (some .long)) (by decide) rfl ?_
  intro p e s m args below meth c s₁ B hml hv
  obtain ⟨rfl, hsz, hP, hK, hD0, hN⟩ := hv
  have hx := B.exec
  have hb := B.bytes
  have hr := B.returns
  have hts0 := atoms_spec (ws := (.code yX6_allWin cX6_allWin 2 (some .long) :: gt)) B.pre
  have hts : ∀ w ∈ gt, w.before _ s = true := fun w h => hts0 w (List.mem_cons_of_mem _ h)
  have hown : s.vm.findClass RX6 = some m.cls := findClass_of_methodNamed B.named
  have hlocks := B.notSynchronized
  subst hsz
  have hD := hD0.self (sz := s.heap.size)
  generalize hAe : va_A (wX6 cs ah sh al bx aw ac at_ rr ru tl h_size h_opened h_tal s0_row s0_made s0_size s1_row s1_made s1_size s2_row s2_made s2_size s3_row s3_made s3_size l_len l_ways l_box w_used w_kind w_size w_left w_last w_top w_wanted c_row c_made c_size t_fac t_der t_rec t_rut t_ris) s.heap.size = A at hD ⊢
  have hA : ∀ q : Nat, s.heap.size ≤ q → A q := fun q h => by rw [← hAe]; exact Or.inr h
  have hS : va_S A s.heap s.heap [] := va_S.rf
  have hl := lv_entry ([.ref (ah 0), .int a1]) (n := 2) (Nat.le_of_ble_eq_true rfl)
  rw [lg_entry_eq]
  generalize (lg_sl ([.ref (ah 0), .int a1]) ++ List.replicate (2 - (lg_sl ([.ref (ah 0), .int a1])).length) Slot.unset).toArray = ls at hl ⊢
  have hl : lv_has ls 2 [(0, .ref (ah 0)), (1, .int a1)] := hl
  unfold q6_allWin at hq
  refine lv_iload_n hx hb dX6_allWin_0 rfl (lv_at hl 1 rfl) ?_
  refine roi (runS ⟨hx, hb, hml, hown, hts⟩ ws_X6_isWay ml_X6_154 (c6_isWay l dC dI cs   a1 hq) ⟨⟨rfl, rfl⟩, by decide, by decide⟩ (preR va_P_nil hK hN) hN rfl hl.1 rfl (Nat.le_of_ble_eq_true rfl) dX6_allWin_1 ⟨(Nat.le_of_ble_eq_true rfl), (Nat.le_of_ble_eq_true rfl)⟩) (fun r9 hq => ?_)
  refine lv_if_ne (tgt := 11) hx hb dX6_allWin_4 (by decide) (fun c10 => ?_) (fun c10 => ?_)
  · have hq := hq.1 c10
    refine lv_iload_n hx hb dX6_allWin_11 rfl (lv_at hl 1 rfl) ?_
    refine lv_if_ne (tgt := 31) hx hb dX6_allWin_12 (by decide) (fun c11 => ?_) (fun c11 => ?_)
    · have hq := hq.1 c11
      refine lv_aload_n hx hb dX6_allWin_31 rfl (lv_at hl 0 rfl) ?_
      refine va_get (D := (dC, dI)) (ci := 6) (v := .int h_size) (C := RX6) (T := TX6) (N := 8) hx hb hts uwX6 hown hK hP 0 rfl rfl 6 (by decide) (hts _ fl_X6_102) (fun _ h9 => h9) rfl dX6_allWin_32 ?_
      refine lv_bipush (v := (7 : Int32)) hx hb dX6_allWin_35 (by decide) ?_
      refine lv_icmp_le (tgt := 46) hx hb dX6_allWin_37 (by decide) (fun c12 => ?_) (fun c12 => ?_)
      · have hq := hq.1 c12
        refine lv_aload_n hx hb dX6_allWin_46 rfl (lv_at hl 0 rfl) ?_
        refine va_get (D := (dC, dI)) (ci := 6) (v := .ref (al 0)) (C := RX6) (T := TX6) (N := 8) hx hb hts uwX6 hown hK hP 0 rfl rfl 2 (by decide) (hts _ fl_X6_23) (fun _ h9 => h9) rfl dX6_allWin_47 ?_
        refine lv_aload_n hx hb dX6_allWin_50 rfl (lv_at hl 0 rfl) ?_
        refine va_get (D := (dC, dI)) (ci := 6) (v := .int h_size) (C := RX6) (T := TX6) (N := 8) hx hb hts uwX6 hown hK hP 0 rfl rfl 6 (by decide) (hts _ fl_X6_102) (fun _ h9 => h9) rfl dX6_allWin_51 ?_
        refine lv_aload_n hx hb dX6_allWin_54 rfl (lv_at hl 0 rfl) ?_
        refine va_get (D := (dC, dI)) (ci := 6) (v := .int h_opened) (C := RX6) (T := TX6) (N := 8) hx hb hts uwX6 hown hK hP 0 rfl rfl 7 (by decide) (hts _ fl_X6_140) (fun _ h9 => h9) rfl dX6_allWin_55 ?_
        refine jwl (runV ⟨hx, hb, hml, hown, hts⟩ wf_X0_ordersWonByAll ml_X6_170 (c0_ordersWonByAll l dC dI cs al bx _ l_len l_ways l_box h_size h_opened hq) ⟨⟨rfl, rfl⟩, by decide, by decide⟩ (preW (hP.sub (ws' := wX0 cs al bx l_len l_ways l_box) [15, 16, 17, 18, 19, 20, 21, 22, 23, 24, 25, 26, 27, 28, 29, 30, 31, 32, 33, 34, 35, 36] rfl) hK hN (hD.sub (ws' := wX0 cs al bx l_len l_ways l_box) [15, 16, 17, 18, 19, 20, 21, 22, 23, 24, 25, 26, 27, 28, 29, 30, 31, 32, 33, 34, 35, 36] (by decide) rfl)) hK hP rfl 15 rfl rfl hl.1 rfl (Nat.le_of_ble_eq_true rfl) dX6_allWin_58 ⟨(Nat.le_of_ble_eq_true rfl), (Nat.le_of_ble_eq_true rfl)⟩) hP hD hS hA 15 37 rfl (fun r13 l_ways_14 H locs hq hP hD hS => ?_)
        have hP : va_P (dC, dI) vwCl (wX6 cs ah sh al bx aw ac at_ rr ru tl h_size h_opened h_tal s0_row s0_made s0_size s1_row s1_made s1_size s2_row s2_made s2_size s3_row s3_made s3_size l_len l_ways_14 l_box w_used w_kind w_size w_left w_last w_top w_wanted c_row c_made c_size t_fac t_der t_rec t_rut t_ris) H := hP
        have hD : va_D A (wX6 cs ah sh al bx aw ac at_ rr ru tl h_size h_opened h_tal s0_row s0_made s0_size s1_row s1_made s1_size s2_row s2_made s2_size s3_row s3_made s3_size l_len l_ways_14 l_box w_used w_kind w_size w_left w_last w_top w_wanted c_row c_made c_size t_fac t_der t_rec t_rut t_ris) := hD
        exact W.lret (v := r13) hx hb hr (fun t ht hW => ⟨⟨r13, l_ways_14, rfl, hq, Bw_mk (by rw [ht]; exact hP) (va_K.moved hW.alike hK) hD⟩, hS.F ht⟩) hS.2.2 dX6_allWin_61
      · have hq := hq.2 c12
        refine lv_ldc2 (v := (-3 : Int64)) hx hb hown (hts _ kl_X6_168) dX6_allWin_40 ?_
        refine lv_goto (tgt := 61) hx hb dX6_allWin_43 (by decide) ?_
        exact W.lret (v := (-3 : Int64)) hx hb hr (fun t ht hW => ⟨⟨(-3 : Int64), l_ways, rfl, hq, Bw_mk (by rw [ht]; exact hP) (va_K.moved hW.alike hK) hD⟩, hS.F ht⟩) hS.2.2 dX6_allWin_61
    · have hq := hq.2 c11
      refine lv_aload_n hx hb dX6_allWin_15 rfl (lv_at hl 0 rfl) ?_
      refine va_get (D := (dC, dI)) (ci := 6) (v := .ref (at_ 0)) (C := RX6) (T := TX6) (N := 8) hx hb hts uwX6 hown hK hP 0 rfl rfl 3 (by decide) (hts _ fl_X6_30) (fun _ h9 => h9) rfl dX6_allWin_16 ?_
      refine lv_aload_n hx hb dX6_allWin_19 rfl (lv_at hl 0 rfl) ?_
      refine va_get (D := (dC, dI)) (ci := 6) (v := .int h_opened) (C := RX6) (T := TX6) (N := 8) hx hb hts uwX6 hown hK hP 0 rfl rfl 7 (by decide) (hts _ fl_X6_140) (fun _ h9 => h9) rfl dX6_allWin_20 ?_
      refine lv_aload_n hx hb dX6_allWin_23 rfl (lv_at hl 0 rfl) ?_
      refine va_get (D := (dC, dI)) (ci := 6) (v := .int h_size) (C := RX6) (T := TX6) (N := 8) hx hb hts uwX6 hown hK hP 0 rfl rfl 6 (by decide) (hts _ fl_X6_102) (fun _ h9 => h9) rfl dX6_allWin_24 ?_
      refine rol (runV ⟨hx, hb, hml, hown, hts⟩ wf_X3_withRoundsUpTo ml_X6_164 (c3_withRoundsUpTo l dC dI cs at_ rr ru t_fac t_der t_rec t_rut t_ris h_opened h_size hq) ⟨⟨rfl, rfl⟩, by decide, by decide⟩ (preR (hP.sub (ws' := wX3 cs at_ rr ru t_fac t_der t_rec t_rut t_ris) [42, 43, 44, 45, 46, 47, 48, 49, 50, 51, 52, 53, 54, 55, 56, 57, 58, 59, 60, 61, 62, 63, 64, 65, 66, 67, 68, 69, 70, 71, 72, 73, 74, 75, 76, 77, 78, 79, 80, 81, 82, 83, 84, 85] rfl) hK hN) hK hP rfl 42 rfl rfl hl.1 rfl (Nat.le_of_ble_eq_true rfl) dX6_allWin_27 ⟨(Nat.le_of_ble_eq_true rfl), (Nat.le_of_ble_eq_true rfl)⟩) (fun r16 hq => ?_)
      exact W.lret (v := r16) hx hb hr (fun t ht hW => ⟨⟨r16, l_ways, rfl, hq, Bw_mk (by rw [ht]; exact hP) (va_K.moved hW.alike hK) hD⟩, hS.F ht⟩) hS.2.2 dX6_allWin_30
  · have hq := hq.2 c10
    refine lv_ldc2 (v := (-2 : Int64)) hx hb hown (hts _ kl_X6_96) dX6_allWin_7 ?_
    exact W.lret (v := (-2 : Int64)) hx hb hr (fun t ht hW => ⟨⟨(-2 : Int64), l_ways, rfl, hq, Bw_mk (by rw [ht]; exact hP) (va_K.moved hW.alike hK) hD⟩, hS.F ht⟩) hS.2.2 dX6_allWin_10
set_option maxHeartbeats 4000000 in
set_option maxRecDepth 100000 in
theorem c6_count (l : Launch) (dC : Nat → ClassId) (dI : Nat → Nat → Nat) (cs : Nat → ClassId) (ah : Nat → Nat) (sh : Nat → Nat → Nat) (al : Nat → Nat) (bx : Nat → Nat) (aw : Nat → Nat) (ac : Nat → Nat) (at_ : Nat → Nat) (rr : Nat → Nat) (ru : Nat → Nat) (tl : va_W) (h_size : Int32) (h_opened : Int32) (h_tal : Nat → Option Nat) (s0_row : Nat → Int32) (s0_made : Nat → Int32) (s0_size : Int32) (s1_row : Nat → Int32) (s1_made : Nat → Int32) (s1_size : Int32) (s2_row : Nat → Int32) (s2_made : Nat → Int32) (s2_size : Int32) (s3_row : Nat → Int32) (s3_made : Nat → Int32) (s3_size : Int32) (l_len : Nat → Int32) (l_ways : Nat → Int64) (l_box : Nat → Nat → Int32) (w_used : Nat → Int32) (w_kind : Int32) (w_size : Int32) (w_left : Int32) (w_last : Int32) (w_top : Int32) (w_wanted : Int32) (c_row : Nat → Int32) (c_made : Nat → Int32) (c_size : Int32) (t_fac : Nat → Int64) (t_der : Nat → Int64) (t_rec : Nat → Nat → Int64) (t_rut : Nat → Nat → Int64) (t_ris : Nat → Int64) (a1 : Int32) {Q : Int32 → Prop} (hq : q6_count h_size h_opened l_len a1 Q) : Met l yX6_count (.code yX6_count cX6_count 2 (some .int) :: gt) ({ frames := 1, cells := 0, slots := 0, locals := 22 } : Room) (va_Pc [.ref (ah 0), .int a1] (Pr (dC, dI) (KA cs) (wX6 cs ah sh al bx aw ac at_ rr ru tl h_size h_opened h_tal s0_row s0_made s0_size s1_row s1_made s1_size s2_row s2_made s2_size s3_row s3_made s3_size l_len l_ways l_box w_used w_kind w_size w_left w_last w_top w_wanted c_row c_made c_size t_fac t_der t_rec t_rut t_ris))) (vp_Si Q) 0 0 (fun _ => False) := by
  refine Met.ofW (cc := cX6_count) (maxL := 2) (ret := (some .int)) (by decide) rfl ?_
  intro p e s m args below meth c s₁ B hml hv
  obtain ⟨rfl, hP, hK, hN⟩ := hv
  have hx := B.exec
  have hb := B.bytes
  have hr := B.returns
  have hts0 := atoms_spec (ws := (.code yX6_count cX6_count 2 (some .int) :: gt)) B.pre
  have hts : ∀ w ∈ gt, w.before _ s = true := fun w h => hts0 w (List.mem_cons_of_mem _ h)
  have hown : s.vm.findClass RX6 = some m.cls := findClass_of_methodNamed B.named
  have hlocks := B.notSynchronized
  have hl := lv_entry ([.ref (ah 0), .int a1]) (n := 2) (Nat.le_of_ble_eq_true rfl)
  rw [lg_entry_eq]
  generalize (lg_sl ([.ref (ah 0), .int a1]) ++ List.replicate (2 - (lg_sl ([.ref (ah 0), .int a1])).length) Slot.unset).toArray = ls at hl ⊢
  have hl : lv_has ls 2 [(0, .ref (ah 0)), (1, .int a1)] := hl
  unfold q6_count at hq
  refine lv_iload_n hx hb dX6_count_0 rfl (lv_at hl 1 rfl) ?_
  by_cases c5 : a1 = (0 : Int32)
  · have hq := hq.1 c5
    refine lv_tableIn (tgt := 28) hx hb dX6_count_1 (by rw [c5]; decide) (by rw [c5]; decide) (by rw [c5]; rfl) (by decide) ?_
    refine lv_aload_n hx hb dX6_count_28 rfl (lv_at hl 0 rfl) ?_
    refine va_get (D := (dC, dI)) (ci := 6) (v := .int h_size) (C := RX6) (T := TX6) (N := 8) hx hb hts uwX6 hown hK hP 0 rfl rfl 6 (by decide) (hts _ fl_X6_102) (fun _ h9 => h9) rfl dX6_count_29 ?_
    exact W.iret (v := h_size) hx hb hr (fun t ht hW => ⟨h_size, rfl, hq, ht⟩) (fun q h => absurd h List.not_mem_nil) dX6_count_32
  have hq := hq.2 c5
  by_cases c6 : a1 = (1 : Int32)
  · have hq := hq.1 c6
    refine lv_tableIn (tgt := 33) hx hb dX6_count_1 (by rw [c6]; decide) (by rw [c6]; decide) (by rw [c6]; rfl) (by decide) ?_
    refine lv_aload_n hx hb dX6_count_33 rfl (lv_at hl 0 rfl) ?_
    refine va_get (D := (dC, dI)) (ci := 6) (v := .int h_opened) (C := RX6) (T := TX6) (N := 8) hx hb hts uwX6 hown hK hP 0 rfl rfl 7 (by decide) (hts _ fl_X6_140) (fun _ h9 => h9) rfl dX6_count_34 ?_
    exact W.iret (v := h_opened) hx hb hr (fun t ht hW => ⟨h_opened, rfl, hq, ht⟩) (fun q h => absurd h List.not_mem_nil) dX6_count_37
  have hq := hq.2 c6
  by_cases c7 : a1 = (2 : Int32)
  · have hq := hq.1 c7
    refine lv_tableIn (tgt := 38) hx hb dX6_count_1 (by rw [c7]; decide) (by rw [c7]; decide) (by rw [c7]; rfl) (by decide) ?_
    refine lv_aload_n hx hb dX6_count_38 rfl (lv_at hl 0 rfl) ?_
    refine va_get (D := (dC, dI)) (ci := 6) (v := .ref (al 0)) (C := RX6) (T := TX6) (N := 8) hx hb hts uwX6 hown hK hP 0 rfl rfl 2 (by decide) (hts _ fl_X6_23) (fun _ h9 => h9) rfl dX6_count_39 ?_
    refine roi (runV ⟨hx, hb, hml, hown, hts⟩ wf_X0_boxesInAll ml_X6_173 (c0_boxesInAll l dC dI cs al bx l_len l_ways l_box  hq) ⟨⟨rfl, rfl⟩, by decide, by decide⟩ (preR (hP.sub (ws' := wX0 cs al bx l_len l_ways l_box) [15, 16, 17, 18, 19, 20, 21, 22, 23, 24, 25, 26, 27, 28, 29, 30, 31, 32, 33, 34, 35, 36] rfl) hK hN) hK hP rfl 15 rfl rfl hl.1 rfl (Nat.le_of_ble_eq_true rfl) dX6_count_42 ⟨(Nat.le_of_ble_eq_true rfl), (Nat.le_of_ble_eq_true rfl)⟩) (fun r8 hq => ?_)
    exact W.iret (v := r8) hx hb hr (fun t ht hW => ⟨r8, rfl, hq, ht⟩) (fun q h => absurd h List.not_mem_nil) dX6_count_45
  have hq := hq.2 c7
  refine lv_tableOut (tgt := 46) hx hb dX6_count_1 (by have := i32_ne c5 ; have := i32_ne c6 ; have := i32_ne c7; simp at *; omega) (by decide) ?_
  refine lv_bipush (v := (-2 : Int32)) hx hb dX6_count_46 (by decide) ?_
  exact W.iret (v := (-2 : Int32)) hx hb hr (fun t ht hW => ⟨(-2 : Int32), rfl, hq, ht⟩) (fun q h => absurd h List.not_mem_nil) dX6_count_48
