set_option maxHeartbeats 4000000 in
set_option maxRecDepth 100000 in
theorem c6_take (l : Launch) (dC : Nat → ClassId) (dI : Nat → Nat → Nat) (cs : Nat → ClassId) (ah : Nat → Nat) (sh : Nat → Nat → Nat) (al : Nat → Nat) (bx : Nat → Nat) (aw : Nat → Nat) (ac : Nat → Nat) (at_ : Nat → Nat) (rr : Nat → Nat) (ru : Nat → Nat) (tl : va_W) (sz : Nat) (h_size : Int32) (h_opened : Int32) (h_tal : Nat → Option Nat) (s0_row : Nat → Int32) (s0_made : Nat → Int32) (s0_size : Int32) (s1_row : Nat → Int32) (s1_made : Nat → Int32) (s1_size : Int32) (s2_row : Nat → Int32) (s2_made : Nat → Int32) (s2_size : Int32) (s3_row : Nat → Int32) (s3_made : Nat → Int32) (s3_size : Int32) (l_len : Nat → Int32) (l_ways : Nat → Int64) (l_box : Nat → Nat → Int32) (w_used : Nat → Int32) (w_kind : Int32) (w_size : Int32) (w_left : Int32) (w_last : Int32) (w_top : Int32) (w_wanted : Int32) (c_row : Nat → Int32) (c_made : Nat → Int32) (c_size : Int32) (t_fac : Nat → Int64) (t_der : Nat → Int64) (t_rec : Nat → Nat → Int64) (t_rut : Nat → Nat → Int64) (t_ris : Nat → Int64) (a1 : Int32) {Q : Int32 → (Nat → Int32) → Prop} (hq : q6_take s0_row s1_row s2_row s3_row c_size c_row a1 Q) : Met l yX6_take (.code yX6_take cX6_take 2 (some .int) :: gt) ({ frames := 1, cells := 0, slots := 0, locals := 22 } : Room) (va_Pc [.ref (ah 0), .int a1] (Pw (dC, dI) (KA cs) (wX6 cs ah sh al bx aw ac at_ rr ru tl h_size h_opened h_tal s0_row s0_made s0_size s1_row s1_made s1_size s2_row s2_made s2_size s3_row s3_made s3_size l_len l_ways l_box w_used w_kind w_size w_left w_last w_top w_wanted c_row c_made c_size t_fac t_der t_rec t_rut t_ris) sz)) (va_Qi (fun (r : Int32) (u : (Nat → Int32)) => Q r u) (Bw (dC, dI) (KA cs) (va_A (wX6 cs ah sh al bx aw ac at_ rr ru tl h_size h_opened h_tal s0_row s0_made s0_size s1_row s1_made s1_size s2_row s2_made s2_size s3_row s3_made s3_size l_len l_ways l_box w_used w_kind w_size w_left w_last w_top w_wanted c_row c_made c_size t_fac t_der t_rec t_rut t_ris) sz) (fun u : (Nat → Int32) => (wX6 cs ah sh al bx aw ac at_ rr ru tl h_size h_opened h_tal s0_row s0_made s0_size s1_row s1_made s1_size s2_row s2_made s2_size s3_row s3_made s3_size l_len l_ways l_box w_used w_kind w_size w_left w_last w_top w_wanted u c_made c_size t_fac t_der t_rec t_rut t_ris))) (va_A (wX6 cs ah sh al bx aw ac at_ rr ru tl h_size h_opened h_tal s0_row s0_made s0_size s1_row s1_made s1_size s2_row s2_made s2_size s3_row s3_made s3_size l_len l_ways l_box w_used w_kind w_size w_left w_last w_top w_wanted c_row c_made c_size t_fac t_der t_rec t_rut t_ris) sz)) 0 0 (va_A (wX6 cs ah sh al bx aw ac at_ rr ru tl h_size h_opened h_tal s0_row s0_made s0_size s1_row s1_made s1_size s2_row s2_made s2_size s3_row s3_made s3_size l_len l_ways l_box w_used w_kind w_size w_left w_last w_top w_wanted c_row c_made c_size t_fac t_der t_rec t_rut t_ris) sz) := by
  refine Met.ofW (cc := cX6_take) (maxL := 2) (ret := (some .int)) (by decide) rfl ?_
  intro p e s m args below meth c s₁ B hml hv
  obtain ⟨rfl, hsz, hP, hK, hD0, hN⟩ := hv
  have hx := B.exec
  have hb := B.bytes
  have hr := B.returns
  have hts0 := atoms_spec (ws := (.code yX6_take cX6_take 2 (some .int) :: gt)) B.pre
  have hts : ∀ w ∈ gt, w.before _ s = true := fun w h => hts0 w (List.mem_cons_of_mem _ h)
  have hown : s.vm.findClass RX6 = some m.cls := findClass_of_methodNamed B.named
  have hlocks := B.notSynchronized
  subst hsz
  have hD := hD0.self (sz := s.heap.size)
  generalize hAe : va_A (wX6 cs ah sh al bx aw ac at_ rr ru tl h_size h_opened h_tal s0_row s0_made s0_size s1_row s1_made s1_size s2_row s2_made s2_size s3_row s3_made s3_size l_len l_ways l_box w_used w_kind w_size w_left w_last w_top w_wanted c_row c_made c_size t_fac t_der t_rec t_rut t_ris) s.heap.size = A at hD ⊢
  have hA : ∀ q : Nat, s.heap.size ≤ q → A q := fun q h => by rw [← hAe]; exact Or.inr h
  have hS : va_S A s.heap s.heap [] := va_S.rf
  have hl := lv_entry ([.ref (ah 0), .int a1]) (n := 2) (Nat.le_of_ble_eq_true rfl)
  rw [lg_entry_eq]
  generalize (lg_sl ([.ref (ah 0), .int a1]) ++ List.replicate (2 - (lg_sl ([.ref (ah 0), .int a1])).length) Slot.unset).toArray = ls at hl ⊢
  have hl : lv_has ls 2 [(0, .ref (ah 0)), (1, .int a1)] := hl
  unfold q6_take at hq
  refine lv_iload_n hx hb dX6_take_0 rfl (lv_at hl 1 rfl) ?_
  refine roi (runS ⟨hx, hb, hml, hown, hts⟩ ws_X6_isPlace ml_X6_69 (c6_isPlace l dC dI cs   a1 hq) ⟨⟨rfl, rfl⟩, by decide, by decide⟩ (preR va_P_nil hK hN) hN rfl hl.1 rfl (Nat.le_of_ble_eq_true rfl) dX6_take_1 ⟨(Nat.le_of_ble_eq_true rfl), (Nat.le_of_ble_eq_true rfl)⟩) (fun r13 hq => ?_)
  refine lv_if_ne (tgt := 10) hx hb dX6_take_4 (by decide) (fun c14 => ?_) (fun c14 => ?_)
  · have hq := hq.1 c14
    refine lv_aload_n hx hb dX6_take_10 rfl (lv_at hl 0 rfl) ?_
    refine va_get (D := (dC, dI)) (ci := 6) (v := .ref (ac 0)) (C := RX6) (T := TX6) (N := 8) hx hb hts uwX6 hown hK hP 0 rfl rfl 0 (by decide) (hts _ fl_X6_10) (fun _ h9 => h9) rfl dX6_take_11 ?_
    refine lv_aload_n hx hb dX6_take_14 rfl (lv_at hl 0 rfl) ?_
    refine va_get (D := (dC, dI)) (ci := 6) (v := .ref (ah 1)) (C := RX6) (T := TX6) (N := 8) hx hb hts uwX6 hown hK hP 0 rfl rfl 1 (by decide) (hts _ fl_X6_16) (fun _ h9 => h9) rfl dX6_take_15 ?_
    refine lv_iload_n hx hb dX6_take_18 rfl (lv_at hl 1 rfl) ?_
    obtain ⟨i15, hq⟩ := hq
    refine va_aldq hx hb hK hP 1 3 rfl rfl i15 dX6_take_19 ?_
    rcases vp_in4 i15 with e16 | e16 | e16 | e16
    · have hq := hq.1 e16
      refine W.eq (g2 := F0 m 20 ls (.ref (sh 0 0) :: [.ref (ac 0)])) (by rw [e16]; rfl) ?_
      refine jwv (runV ⟨hx, hb, hml, hown, hts⟩ wf_X1_copyFrom ml_X6_72 (c1_copyFrom l dC dI cs ac (sh 0) _ c_row c_made c_size s0_row s0_made s0_size  hq) ⟨⟨rfl, rfl⟩, by decide, by decide⟩ (preW3 (hP.sub (ws' := wX1 cs ac c_row c_made c_size) [39, 40, 41] rfl) (hP.sub (ws' := wX1p cs (sh 0) s0_row s0_made s0_size) [3, 4, 5] rfl) hK hN (hD.sub (ws' := (wX1 cs ac c_row c_made c_size) ++ (wX1p cs (sh 0) s0_row s0_made s0_size)) [39, 40, 41, 3, 4, 5] (by decide) rfl)) hK hP rfl 39 rfl rfl hl.1 rfl (Nat.le_of_ble_eq_true rfl) dX6_take_20 ⟨(Nat.le_of_ble_eq_true rfl), (Nat.le_of_ble_eq_true rfl)⟩) hP hD hS hA 39 42 rfl (fun  c_row_17 H locs hq hP hD hS => ?_)
      have hP : va_P (dC, dI) vwCl (wX6 cs ah sh al bx aw ac at_ rr ru tl h_size h_opened h_tal s0_row s0_made s0_size s1_row s1_made s1_size s2_row s2_made s2_size s3_row s3_made s3_size l_len l_ways l_box w_used w_kind w_size w_left w_last w_top w_wanted c_row_17 c_made c_size t_fac t_der t_rec t_rut t_ris) H := hP
      have hD : va_D A (wX6 cs ah sh al bx aw ac at_ rr ru tl h_size h_opened h_tal s0_row s0_made s0_size s1_row s1_made s1_size s2_row s2_made s2_size s3_row s3_made s3_size l_len l_ways l_box w_used w_kind w_size w_left w_last w_top w_wanted c_row_17 c_made c_size t_fac t_der t_rec t_rut t_ris) := hD
      refine lv_iconst (v := (1 : Int32)) hx hb dX6_take_23 (by decide) ?_
      exact W.iret (v := (1 : Int32)) hx hb hr (fun t ht hW => ⟨⟨(1 : Int32), c_row_17, rfl, hq, Bw_mk (by rw [ht]; exact hP) (va_K.moved hW.alike hK) hD⟩, hS.F ht⟩) hS.2.2 dX6_take_24
    · have hq := hq.2.1 e16
      refine W.eq (g2 := F0 m 20 ls (.ref (sh 1 0) :: [.ref (ac 0)])) (by rw [e16]; rfl) ?_
      refine jwv (runV ⟨hx, hb, hml, hown, hts⟩ wf_X1_copyFrom ml_X6_72 (c1_copyFrom l dC dI cs ac (sh 1) _ c_row c_made c_size s1_row s1_made s1_size  hq) ⟨⟨rfl, rfl⟩, by decide, by decide⟩ (preW3 (hP.sub (ws' := wX1 cs ac c_row c_made c_size) [39, 40, 41] rfl) (hP.sub (ws' := wX1p cs (sh 1) s1_row s1_made s1_size) [6, 7, 8] rfl) hK hN (hD.sub (ws' := (wX1 cs ac c_row c_made c_size) ++ (wX1p cs (sh 1) s1_row s1_made s1_size)) [39, 40, 41, 6, 7, 8] (by decide) rfl)) hK hP rfl 39 rfl rfl hl.1 rfl (Nat.le_of_ble_eq_true rfl) dX6_take_20 ⟨(Nat.le_of_ble_eq_true rfl), (Nat.le_of_ble_eq_true rfl)⟩) hP hD hS hA 39 42 rfl (fun  c_row_19 H locs hq hP hD hS => ?_)
      have hP : va_P (dC, dI) vwCl (wX6 cs ah sh al bx aw ac at_ rr ru tl h_size h_opened h_tal s0_row s0_made s0_size s1_row s1_made s1_size s2_row s2_made s2_size s3_row s3_made s3_size l_len l_ways l_box w_used w_kind w_size w_left w_last w_top w_wanted c_row_19 c_made c_size t_fac t_der t_rec t_rut t_ris) H := hP
      have hD : va_D A (wX6 cs ah sh al bx aw ac at_ rr ru tl h_size h_opened h_tal s0_row s0_made s0_size s1_row s1_made s1_size s2_row s2_made s2_size s3_row s3_made s3_size l_len l_ways l_box w_used w_kind w_size w_left w_last w_top w_wanted c_row_19 c_made c_size t_fac t_der t_rec t_rut t_ris) := hD
      refine lv_iconst (v := (1 : Int32)) hx hb dX6_take_23 (by decide) ?_
      exact W.iret (v := (1 : Int32)) hx hb hr (fun t ht hW => ⟨⟨(1 : Int32), c_row_19, rfl, hq, Bw_mk (by rw [ht]; exact hP) (va_K.moved hW.alike hK) hD⟩, hS.F ht⟩) hS.2.2 dX6_take_24
    · have hq := hq.2.2.1 e16
      refine W.eq (g2 := F0 m 20 ls (.ref (sh 2 0) :: [.ref (ac 0)])) (by rw [e16]; rfl) ?_
      refine jwv (runV ⟨hx, hb, hml, hown, hts⟩ wf_X1_copyFrom ml_X6_72 (c1_copyFrom l dC dI cs ac (sh 2) _ c_row c_made c_size s2_row s2_made s2_size  hq) ⟨⟨rfl, rfl⟩, by decide, by decide⟩ (preW3 (hP.sub (ws' := wX1 cs ac c_row c_made c_size) [39, 40, 41] rfl) (hP.sub (ws' := wX1p cs (sh 2) s2_row s2_made s2_size) [9, 10, 11] rfl) hK hN (hD.sub (ws' := (wX1 cs ac c_row c_made c_size) ++ (wX1p cs (sh 2) s2_row s2_made s2_size)) [39, 40, 41, 9, 10, 11] (by decide) rfl)) hK hP rfl 39 rfl rfl hl.1 rfl (Nat.le_of_ble_eq_true rfl) dX6_take_20 ⟨(Nat.le_of_ble_eq_true rfl), (Nat.le_of_ble_eq_true rfl)⟩) hP hD hS hA 39 42 rfl (fun  c_row_21 H locs hq hP hD hS => ?_)
      have hP : va_P (dC, dI) vwCl (wX6 cs ah sh al bx aw ac at_ rr ru tl h_size h_opened h_tal s0_row s0_made s0_size s1_row s1_made s1_size s2_row s2_made s2_size s3_row s3_made s3_size l_len l_ways l_box w_used w_kind w_size w_left w_last w_top w_wanted c_row_21 c_made c_size t_fac t_der t_rec t_rut t_ris) H := hP
      have hD : va_D A (wX6 cs ah sh al bx aw ac at_ rr ru tl h_size h_opened h_tal s0_row s0_made s0_size s1_row s1_made s1_size s2_row s2_made s2_size s3_row s3_made s3_size l_len l_ways l_box w_used w_kind w_size w_left w_last w_top w_wanted c_row_21 c_made c_size t_fac t_der t_rec t_rut t_ris) := hD
      refine lv_iconst (v := (1 : Int32)) hx hb dX6_take_23 (by decide) ?_
      exact W.iret (v := (1 : Int32)) hx hb hr (fun t ht hW => ⟨⟨(1 : Int32), c_row_21, rfl, hq, Bw_mk (by rw [ht]; exact hP) (va_K.moved hW.alike hK) hD⟩, hS.F ht⟩) hS.2.2 dX6_take_24
    · have hq := hq.2.2.2 e16
      refine W.eq (g2 := F0 m 20 ls (.ref (sh 3 0) :: [.ref (ac 0)])) (by rw [e16]; rfl) ?_
      refine jwv (runV ⟨hx, hb, hml, hown, hts⟩ wf_X1_copyFrom ml_X6_72 (c1_copyFrom l dC dI cs ac (sh 3) _ c_row c_made c_size s3_row s3_made s3_size  hq) ⟨⟨rfl, rfl⟩, by decide, by decide⟩ (preW3 (hP.sub (ws' := wX1 cs ac c_row c_made c_size) [39, 40, 41] rfl) (hP.sub (ws' := wX1p cs (sh 3) s3_row s3_made s3_size) [12, 13, 14] rfl) hK hN (hD.sub (ws' := (wX1 cs ac c_row c_made c_size) ++ (wX1p cs (sh 3) s3_row s3_made s3_size)) [39, 40, 41, 12, 13, 14] (by decide) rfl)) hK hP rfl 39 rfl rfl hl.1 rfl (Nat.le_of_ble_eq_true rfl) dX6_take_20 ⟨(Nat.le_of_ble_eq_true rfl), (Nat.le_of_ble_eq_true rfl)⟩) hP hD hS hA 39 42 rfl (fun  c_row_23 H locs hq hP hD hS => ?_)
      have hP : va_P (dC, dI) vwCl (wX6 cs ah sh al bx aw ac at_ rr ru tl h_size h_opened h_tal s0_row s0_made s0_size s1_row s1_made s1_size s2_row s2_made s2_size s3_row s3_made s3_size l_len l_ways l_box w_used w_kind w_size w_left w_last w_top w_wanted c_row_23 c_made c_size t_fac t_der t_rec t_rut t_ris) H := hP
      have hD : va_D A (wX6 cs ah sh al bx aw ac at_ rr ru tl h_size h_opened h_tal s0_row s0_made s0_size s1_row s1_made s1_size s2_row s2_made s2_size s3_row s3_made s3_size l_len l_ways l_box w_used w_kind w_size w_left w_last w_top w_wanted c_row_23 c_made c_size t_fac t_der t_rec t_rut t_ris) := hD
      refine lv_iconst (v := (1 : Int32)) hx hb dX6_take_23 (by decide) ?_
      exact W.iret (v := (1 : Int32)) hx hb hr (fun t ht hW => ⟨⟨(1 : Int32), c_row_23, rfl, hq, Bw_mk (by rw [ht]; exact hP) (va_K.moved hW.alike hK) hD⟩, hS.F ht⟩) hS.2.2 dX6_take_24
  · have hq := hq.2 c14
    refine lv_bipush (v := (-2 : Int32)) hx hb dX6_take_7 (by decide) ?_
    exact W.iret (v := (-2 : Int32)) hx hb hr (fun t ht hW => ⟨⟨(-2 : Int32), c_row, rfl, hq, Bw_mk (by rw [ht]; exact hP) (va_K.moved hW.alike hK) hD⟩, hS.F ht⟩) hS.2.2 dX6_take_9
set_option maxHeartbeats 4000000 in
set_option maxRecDepth 100000 in
theorem c6_then (l : Launch) (dC : Nat → ClassId) (dI : Nat → Nat → Nat) (cs : Nat → ClassId) (ah : Nat → Nat) (sh : Nat → Nat → Nat) (al : Nat → Nat) (bx : Nat → Nat) (aw : Nat → Nat) (ac : Nat → Nat) (at_ : Nat → Nat) (rr : Nat → Nat) (ru : Nat → Nat) (tl : va_W) (sz : Nat) (h_size : Int32) (h_opened : Int32) (h_tal : Nat → Option Nat) (s0_row : Nat → Int32) (s0_made : Nat → Int32) (s0_size : Int32) (s1_row : Nat → Int32) (s1_made : Nat → Int32) (s1_size : Int32) (s2_row : Nat → Int32) (s2_made : Nat → Int32) (s2_size : Int32) (s3_row : Nat → Int32) (s3_made : Nat → Int32) (s3_size : Int32) (l_len : Nat → Int32) (l_ways : Nat → Int64) (l_box : Nat → Nat → Int32) (w_used : Nat → Int32) (w_kind : Int32) (w_size : Int32) (w_left : Int32) (w_last : Int32) (w_top : Int32) (w_wanted : Int32) (c_row : Nat → Int32) (c_made : Nat → Int32) (c_size : Int32) (t_fac : Nat → Int64) (t_der : Nat → Int64) (t_rec : Nat → Nat → Int64) (t_rut : Nat → Nat → Int64) (t_ris : Nat → Int64) (a1 : Int32) {Q : Int32 → (Nat → Int32) → Prop} (hq : q6_then s0_row s0_size s1_row s1_size s2_row s2_size s3_row s3_size c_size c_row a1 Q) : Met l yX6_then (.code yX6_then cX6_then 2 (some .int) :: gt) ({ frames := 3, cells := 0, slots := 0, locals := 64 } : Room) (va_Pc [.ref (ah 0), .int a1] (Pw (dC, dI) (KA cs) (wX6 cs ah sh al bx aw ac at_ rr ru tl h_size h_opened h_tal s0_row s0_made s0_size s1_row s1_made s1_size s2_row s2_made s2_size s3_row s3_made s3_size l_len l_ways l_box w_used w_kind w_size w_left w_last w_top w_wanted c_row c_made c_size t_fac t_der t_rec t_rut t_ris) sz)) (va_Qi (fun (r : Int32) (u : (Nat → Int32)) => Q r u) (Bw (dC, dI) (KA cs) (va_A (wX6 cs ah sh al bx aw ac at_ rr ru tl h_size h_opened h_tal s0_row s0_made s0_size s1_row s1_made s1_size s2_row s2_made s2_size s3_row s3_made s3_size l_len l_ways l_box w_used w_kind w_size w_left w_last w_top w_wanted c_row c_made c_size t_fac t_der t_rec t_rut t_ris) sz) (fun u : (Nat → Int32) => (wX6 cs ah sh al bx aw ac at_ rr ru tl h_size h_opened h_tal s0_row s0_made s0_size s1_row s1_made s1_size s2_row s2_made s2_size s3_row s3_made s3_size l_len l_ways l_box w_used w_kind w_size w_left w_last w_top w_wanted u c_made c_size t_fac t_der t_rec t_rut t_ris))) (va_A (wX6 cs ah sh al bx aw ac at_ rr ru tl h_size h_opened h_tal s0_row s0_made s0_size s1_row s1_made s1_size s2_row s2_made s2_size s3_row s3_made s3_size l_len l_ways l_box w_used w_kind w_size w_left w_last w_top w_wanted c_row c_made c_size t_fac t_der t_rec t_rut t_ris) sz)) 0 0 (va_A (wX6 cs ah sh al bx aw ac at_ rr ru tl h_size h_opened h_tal s0_row s0_made s0_size s1_row s1_made s1_size s2_row s2_made s2_size s3_row s3_made s3_size l_len l_ways l_box w_used w_kind w_size w_left w_last w_top w_wanted c_row c_made c_size t_fac t_der t_rec t_rut t_ris) sz) := by
  refine Met.ofW (cc := cX6_then) (maxL := 2) (ret := (some .int)) (by decide) rfl ?_
  intro p e s m args below meth c s₁ B hml hv
  obtain ⟨rfl, hsz, hP, hK, hD0, hN⟩ := hv
  have hx := B.exec
  have hb := B.bytes
  have hr := B.returns
  have hts0 := atoms_spec (ws := (.code yX6_then cX6_then 2 (some .int) :: gt)) B.pre
  have hts : ∀ w ∈ gt, w.before _ s = true := fun w h => hts0 w (List.mem_cons_of_mem _ h)
  have hown : s.vm.findClass RX6 = some m.cls := findClass_of_methodNamed B.named
  have hlocks := B.notSynchronized
  subst hsz
  have hD := hD0.self (sz := s.heap.size)
  generalize hAe : va_A (wX6 cs ah sh al bx aw ac at_ rr ru tl h_size h_opened h_tal s0_row s0_made s0_size s1_row s1_made s1_size s2_row s2_made s2_size s3_row s3_made s3_size l_len l_ways l_box w_used w_kind w_size w_left w_last w_top w_wanted c_row c_made c_size t_fac t_der t_rec t_rut t_ris) s.heap.size = A at hD ⊢
  have hA : ∀ q : Nat, s.heap.size ≤ q → A q := fun q h => by rw [← hAe]; exact Or.inr h
  have hS : va_S A s.heap s.heap [] := va_S.rf
  have hl := lv_entry ([.ref (ah 0), .int a1]) (n := 2) (Nat.le_of_ble_eq_true rfl)
  rw [lg_entry_eq]
  generalize (lg_sl ([.ref (ah 0), .int a1]) ++ List.replicate (2 - (lg_sl ([.ref (ah 0), .int a1])).length) Slot.unset).toArray = ls at hl ⊢
  have hl : lv_has ls 2 [(0, .ref (ah 0)), (1, .int a1)] := hl
  unfold q6_then at hq
  refine lv_iload_n hx hb dX6_then_0 rfl (lv_at hl 1 rfl) ?_
  refine roi (runS ⟨hx, hb, hml, hown, hts⟩ ws_X6_isPlace ml_X6_69 (c6_isPlace l dC dI cs   a1 hq) ⟨⟨rfl, rfl⟩, by decide, by decide⟩ (preR va_P_nil hK hN) hN rfl hl.1 rfl (Nat.le_of_ble_eq_true rfl) dX6_then_1 ⟨(Nat.le_of_ble_eq_true rfl), (Nat.le_of_ble_eq_true rfl)⟩) (fun r13 hq => ?_)
  refine lv_if_ne (tgt := 10) hx hb dX6_then_4 (by decide) (fun c14 => ?_) (fun c14 => ?_)
  · have hq := hq.1 c14
    refine lv_aload_n hx hb dX6_then_10 rfl (lv_at hl 0 rfl) ?_
    refine va_get (D := (dC, dI)) (ci := 6) (v := .ref (ac 0)) (C := RX6) (T := TX6) (N := 8) hx hb hts uwX6 hown hK hP 0 rfl rfl 0 (by decide) (hts _ fl_X6_10) (fun _ h9 => h9) rfl dX6_then_11 ?_
    refine lv_aload_n hx hb dX6_then_14 rfl (lv_at hl 0 rfl) ?_
    refine va_get (D := (dC, dI)) (ci := 6) (v := .ref (ah 1)) (C := RX6) (T := TX6) (N := 8) hx hb hts uwX6 hown hK hP 0 rfl rfl 1 (by decide) (hts _ fl_X6_16) (fun _ h9 => h9) rfl dX6_then_15 ?_
    refine lv_iload_n hx hb dX6_then_18 rfl (lv_at hl 1 rfl) ?_
    obtain ⟨i15, hq⟩ := hq
    refine va_aldq hx hb hK hP 1 3 rfl rfl i15 dX6_then_19 ?_
    rcases vp_in4 i15 with e16 | e16 | e16 | e16
    · have hq := hq.1 e16
      refine W.eq (g2 := F0 m 20 ls (.ref (sh 0 0) :: [.ref (ac 0)])) (by rw [e16]; rfl) ?_
      refine jwv (runV ⟨hx, hb, hml, hown, hts⟩ wf_X1_goOnBy ml_X6_76 (c1_goOnBy l dC dI cs ac (sh 0) _ c_row c_made c_size s0_row s0_made s0_size  hq) ⟨⟨rfl, rfl⟩, by decide, by decide⟩ (preW3 (hP.sub (ws' := wX1 cs ac c_row c_made c_size) [39, 40, 41] rfl) (hP.sub (ws' := wX1p cs (sh 0) s0_row s0_made s0_size) [3, 4, 5] rfl) hK hN (hD.sub (ws' := (wX1 cs ac c_row c_made c_size) ++ (wX1p cs (sh 0) s0_row s0_made s0_size)) [39, 40, 41, 3, 4, 5] (by decide) rfl)) hK hP rfl 39 rfl rfl hl.1 rfl (Nat.le_of_ble_eq_true rfl) dX6_then_20 ⟨(Nat.le_of_ble_eq_true rfl), (Nat.le_of_ble_eq_true rfl)⟩) hP hD hS hA 39 42 rfl (fun  c_row_17 H locs hq hP hD hS => ?_)
      have hP : va_P (dC, dI) vwCl (wX6 cs ah sh al bx aw ac at_ rr ru tl h_size h_opened h_tal s0_row s0_made s0_size s1_row s1_made s1_size s2_row s2_made s2_size s3_row s3_made s3_size l_len l_ways l_box w_used w_kind w_size w_left w_last w_top w_wanted c_row_17 c_made c_size t_fac t_der t_rec t_rut t_ris) H := hP
      have hD : va_D A (wX6 cs ah sh al bx aw ac at_ rr ru tl h_size h_opened h_tal s0_row s0_made s0_size s1_row s1_made s1_size s2_row s2_made s2_size s3_row s3_made s3_size l_len l_ways l_box w_used w_kind w_size w_left w_last w_top w_wanted c_row_17 c_made c_size t_fac t_der t_rec t_rut t_ris) := hD
      refine lv_iconst (v := (1 : Int32)) hx hb dX6_then_23 (by decide) ?_
      exact W.iret (v := (1 : Int32)) hx hb hr (fun t ht hW => ⟨⟨(1 : Int32), c_row_17, rfl, hq, Bw_mk (by rw [ht]; exact hP) (va_K.moved hW.alike hK) hD⟩, hS.F ht⟩) hS.2.2 dX6_then_24
    · have hq := hq.2.1 e16
      refine W.eq (g2 := F0 m 20 ls (.ref (sh 1 0) :: [.ref (ac 0)])) (by rw [e16]; rfl) ?_
      refine jwv (runV ⟨hx, hb, hml, hown, hts⟩ wf_X1_goOnBy ml_X6_76 (c1_goOnBy l dC dI cs ac (sh 1) _ c_row c_made c_size s1_row s1_made s1_size  hq) ⟨⟨rfl, rfl⟩, by decide, by decide⟩ (preW3 (hP.sub (ws' := wX1 cs ac c_row c_made c_size) [39, 40, 41] rfl) (hP.sub (ws' := wX1p cs (sh 1) s1_row s1_made s1_size) [6, 7, 8] rfl) hK hN (hD.sub (ws' := (wX1 cs ac c_row c_made c_size) ++ (wX1p cs (sh 1) s1_row s1_made s1_size)) [39, 40, 41, 6, 7, 8] (by decide) rfl)) hK hP rfl 39 rfl rfl hl.1 rfl (Nat.le_of_ble_eq_true rfl) dX6_then_20 ⟨(Nat.le_of_ble_eq_true rfl), (Nat.le_of_ble_eq_true rfl)⟩) hP hD hS hA 39 42 rfl (fun  c_row_19 H locs hq hP hD hS => ?_)
      have hP : va_P (dC, dI) vwCl (wX6 cs ah sh al bx aw ac at_ rr ru tl h_size h_opened h_tal s0_row s0_made s0_size s1_row s1_made s1_size s2_row s2_made s2_size s3_row s3_made s3_size l_len l_ways l_box w_used w_kind w_size w_left w_last w_top w_wanted c_row_19 c_made c_size t_fac t_der t_rec t_rut t_ris) H := hP
      have hD : va_D A (wX6 cs ah sh al bx aw ac at_ rr ru tl h_size h_opened h_tal s0_row s0_made s0_size s1_row s1_made s1_size s2_row s2_made s2_size s3_row s3_made s3_size l_len l_ways l_box w_used w_kind w_size w_left w_last w_top w_wanted c_row_19 c_made c_size t_fac t_der t_rec t_rut t_ris) := hD
      refine lv_iconst (v := (1 : Int32)) hx hb dX6_then_23 (by decide) ?_
      exact W.iret (v := (1 : Int32)) hx hb hr (fun t ht hW => ⟨⟨(1 : Int32), c_row_19, rfl, hq, Bw_mk (by rw [ht]; exact hP) (va_K.moved hW.alike hK) hD⟩, hS.F ht⟩) hS.2.2 dX6_then_24
    · have hq := hq.2.2.1 e16
      refine W.eq (g2 := F0 m 20 ls (.ref (sh 2 0) :: [.ref (ac 0)])) (by rw [e16]; rfl) ?_
      refine jwv (runV ⟨hx, hb, hml, hown, hts⟩ wf_X1_goOnBy ml_X6_76 (c1_goOnBy l dC dI cs ac (sh 2) _ c_row c_made c_size s2_row s2_made s2_size  hq) ⟨⟨rfl, rfl⟩, by decide, by decide⟩ (preW3 (hP.sub (ws' := wX1 cs ac c_row c_made c_size) [39, 40, 41] rfl) (hP.sub (ws' := wX1p cs (sh 2) s2_row s2_made s2_size) [9, 10, 11] rfl) hK hN (hD.sub (ws' := (wX1 cs ac c_row c_made c_size) ++ (wX1p cs (sh 2) s2_row s2_made s2_size)) [39, 40, 41, 9, 10, 11] (by decide) rfl)) hK hP rfl 39 rfl rfl hl.1 rfl (Nat.le_of_ble_eq_true rfl) dX6_then_20 ⟨(Nat.le_of_ble_eq_true rfl), (Nat.le_of_ble_eq_true rfl)⟩) hP hD hS hA 39 42 rfl (fun  c_row_21 H locs hq hP hD hS => ?_)
      have hP : va_P (dC, dI) vwCl (wX6 cs ah sh al bx aw ac at_ rr ru tl h_size h_opened h_tal s0_row s0_made s0_size s1_row s1_made s1_size s2_row s2_made s2_size s3_row s3_made s3_size l_len l_ways l_box w_used w_kind w_size w_left w_last w_top w_wanted c_row_21 c_made c_size t_fac t_der t_rec t_rut t_ris) H := hP
      have hD : va_D A (wX6 cs ah sh al bx aw ac at_ rr ru tl h_size h_opened h_tal s0_row s0_made s0_size s1_row s1_made s1_size s2_row s2_made s2_size s3_row s3_made s3_size l_len l_ways l_box w_used w_kind w_size w_left w_last w_top w_wanted c_row_21 c_made c_size t_fac t_der t_rec t_rut t_ris) := hD
      refine lv_iconst (v := (1 : Int32)) hx hb dX6_then_23 (by decide) ?_
      exact W.iret (v := (1 : Int32)) hx hb hr (fun t ht hW => ⟨⟨(1 : Int32), c_row_21, rfl, hq, Bw_mk (by rw [ht]; exact hP) (va_K.moved hW.alike hK) hD⟩, hS.F ht⟩) hS.2.2 dX6_then_24
    · have hq := hq.2.2.2 e16
      refine W.eq (g2 := F0 m 20 ls (.ref (sh 3 0) :: [.ref (ac 0)])) (by rw [e16]; rfl) ?_
      refine jwv (runV ⟨hx, hb, hml, hown, hts⟩ wf_X1_goOnBy ml_X6_76 (c1_goOnBy l dC dI cs ac (sh 3) _ c_row c_made c_size s3_row s3_made s3_size  hq) ⟨⟨rfl, rfl⟩, by decide, by decide⟩ (preW3 (hP.sub (ws' := wX1 cs ac c_row c_made c_size) [39, 40, 41] rfl) (hP.sub (ws' := wX1p cs (sh 3) s3_row s3_made s3_size) [12, 13, 14] rfl) hK hN (hD.sub (ws' := (wX1 cs ac c_row c_made c_size) ++ (wX1p cs (sh 3) s3_row s3_made s3_size)) [39, 40, 41, 12, 13, 14] (by decide) rfl)) hK hP rfl 39 rfl rfl hl.1 rfl (Nat.le_of_ble_eq_true rfl) dX6_then_20 ⟨(Nat.le_of_ble_eq_true rfl), (Nat.le_of_ble_eq_true rfl)⟩) hP hD hS hA 39 42 rfl (fun  c_row_23 H locs hq hP hD hS => ?_)
      have hP : va_P (dC, dI) vwCl (wX6 cs ah sh al bx aw ac at_ rr ru tl h_size h_opened h_tal s0_row s0_made s0_size s1_row s1_made s1_size s2_row s2_made s2_size s3_row s3_made s3_size l_len l_ways l_box w_used w_kind w_size w_left w_last w_top w_wanted c_row_23 c_made c_size t_fac t_der t_rec t_rut t_ris) H := hP
      have hD : va_D A (wX6 cs ah sh al bx aw ac at_ rr ru tl h_size h_opened h_tal s0_row s0_made s0_size s1_row s1_made s1_size s2_row s2_made s2_size s3_row s3_made s3_size l_len l_ways l_box w_used w_kind w_size w_left w_last w_top w_wanted c_row_23 c_made c_size t_fac t_der t_rec t_rut t_ris) := hD
      refine lv_iconst (v := (1 : Int32)) hx hb dX6_then_23 (by decide) ?_
      exact W.iret (v := (1 : Int32)) hx hb hr (fun t ht hW => ⟨⟨(1 : Int32), c_row_23, rfl, hq, Bw_mk (by rw [ht]; exact hP) (va_K.moved hW.alike hK) hD⟩, hS.F ht⟩) hS.2.2 dX6_then_24
  · have hq := hq.2 c14
    refine lv_bipush (v := (-2 : Int32)) hx hb dX6_then_7 (by decide) ?_
    exact W.iret (v := (-2 : Int32)) hx hb hr (fun t ht hW => ⟨⟨(-2 : Int32), c_row, rfl, hq, Bw_mk (by rw [ht]; exact hP) (va_K.moved hW.alike hK) hD⟩, hS.F ht⟩) hS.2.2 dX6_then_9
set_option maxHeartbeats 4000000 in
set_option maxRecDepth 100000 in
theorem c6_back (l : Launch) (dC : Nat → ClassId) (dI : Nat → Nat → Nat) (cs : Nat → ClassId) (ah : Nat → Nat) (sh : Nat → Nat → Nat) (al : Nat → Nat) (bx : Nat → Nat) (aw : Nat → Nat) (ac : Nat → Nat) (at_ : Nat → Nat) (rr : Nat → Nat) (ru : Nat → Nat) (tl : va_W) (sz : Nat) (h_size : Int32) (h_opened : Int32) (h_tal : Nat → Option Nat) (s0_row : Nat → Int32) (s0_made : Nat → Int32) (s0_size : Int32) (s1_row : Nat → Int32) (s1_made : Nat → Int32) (s1_size : Int32) (s2_row : Nat → Int32) (s2_made : Nat → Int32) (s2_size : Int32) (s3_row : Nat → Int32) (s3_made : Nat → Int32) (s3_size : Int32) (l_len : Nat → Int32) (l_ways : Nat → Int64) (l_box : Nat → Nat → Int32) (w_used : Nat → Int32) (w_kind : Int32) (w_size : Int32) (w_left : Int32) (w_last : Int32) (w_top : Int32) (w_wanted : Int32) (c_row : Nat → Int32) (c_made : Nat → Int32) (c_size : Int32) (t_fac : Nat → Int64) (t_der : Nat → Int64) (t_rec : Nat → Nat → Int64) (t_rut : Nat → Nat → Int64) (t_ris : Nat → Int64) {Q : Int32 → (Nat → Int32) → (Nat → Int32) → Prop} (hq : q6_back c_size c_row c_made Q) : Met l yX6_back (.code yX6_back cX6_back 1 (some .int) :: gt) ({ frames := 3, cells := 0, slots := 0, locals := 64 } : Room) (va_Pc [.ref (ah 0)] (Pw (dC, dI) (KA cs) (wX6 cs ah sh al bx aw ac at_ rr ru tl h_size h_opened h_tal s0_row s0_made s0_size s1_row s1_made s1_size s2_row s2_made s2_size s3_row s3_made s3_size l_len l_ways l_box w_used w_kind w_size w_left w_last w_top w_wanted c_row c_made c_size t_fac t_der t_rec t_rut t_ris) sz)) (va_Qi (fun (r : Int32) (u : (Nat → Int32) × (Nat → Int32)) => Q r u.1 u.2) (Bw (dC, dI) (KA cs) (va_A (wX6 cs ah sh al bx aw ac at_ rr ru tl h_size h_opened h_tal s0_row s0_made s0_size s1_row s1_made s1_size s2_row s2_made s2_size s3_row s3_made s3_size l_len l_ways l_box w_used w_kind w_size w_left w_last w_top w_wanted c_row c_made c_size t_fac t_der t_rec t_rut t_ris) sz) (fun u : (Nat → Int32) × (Nat → Int32) => (wX6 cs ah sh al bx aw ac at_ rr ru tl h_size h_opened h_tal s0_row s0_made s0_size s1_row s1_made s1_size s2_row s2_made s2_size s3_row s3_made s3_size l_len l_ways l_box w_used w_kind w_size w_left w_last w_top w_wanted u.1 u.2 c_size t_fac t_der t_rec t_rut t_ris))) (va_A (wX6 cs ah sh al bx aw ac at_ rr ru tl h_size h_opened h_tal s0_row s0_made s0_size s1_row s1_made s1_size s2_row s2_made s2_size s3_row s3_made s3_size l_len l_ways l_box w_used w_kind w_size w_left w_last w_top w_wanted c_row c_made c_size t_fac t_der t_rec t_rut t_ris) sz)) 0 0 (va_A (wX6 cs ah sh al bx aw ac at_ rr ru tl h_size h_opened h_tal s0_row s0_made s0_size s1_row s1_made s1_size s2_row s2_made s2_size s3_row s3_made s3_size l_len l_ways l_box w_used w_kind w_size w_left w_last w_top w_wanted c_row c_made c_size t_fac t_der t_rec t_rut t_ris) sz) := by
  refine Met.ofW (cc := cX6_back) (maxL := 1) (ret := (some .int)) (by decide) rfl ?_
  intro p e s m args below meth c s₁ B hml hv
  obtain ⟨rfl, hsz, hP, hK, hD0, hN⟩ := hv
  have hx := B.exec
  have hb := B.bytes
  have hr := B.returns
  have hts0 := atoms_spec (ws := (.code yX6_back cX6_back 1 (some .int) :: gt)) B.pre
  have hts : ∀ w ∈ gt, w.before _ s = true := fun w h => hts0 w (List.mem_cons_of_mem _ h)
  have hown : s.vm.findClass RX6 = some m.cls := findClass_of_methodNamed B.named
  have hlocks := B.notSynchronized
  subst hsz
  have hD := hD0.self (sz := s.heap.size)
  generalize hAe : va_A (wX6 cs ah sh al bx aw ac at_ rr ru tl h_size h_opened h_tal s0_row s0_made s0_size s1_row s1_made s1_size s2_row s2_made s2_size s3_row s3_made s3_size l_len l_ways l_box w_used w_kind w_size w_left w_last w_top w_wanted c_row c_made c_size t_fac t_der t_rec t_rut t_ris) s.heap.size = A at hD ⊢
  have hA : ∀ q : Nat, s.heap.size ≤ q → A q := fun q h => by rw [← hAe]; exact Or.inr h
  have hS : va_S A s.heap s.heap [] := va_S.rf
  have hl := lv_entry ([.ref (ah 0)]) (n := 1) (Nat.le_of_ble_eq_true rfl)
  rw [lg_entry_eq]
  generalize (lg_sl ([.ref (ah 0)]) ++ List.replicate (1 - (lg_sl ([.ref (ah 0)])).length) Slot.unset).toArray = ls at hl ⊢
  have hl : lv_has ls 1 [(0, .ref (ah 0))] := hl
  unfold q6_back at hq
  refine lv_aload_n hx hb dX6_back_0 rfl (lv_at hl 0 rfl) ?_
  refine va_get (D := (dC, dI)) (ci := 6) (v := .ref (ac 0)) (C := RX6) (T := TX6) (N := 8) hx hb hts uwX6 hown hK hP 0 rfl rfl 0 (by decide) (hts _ fl_X6_10) (fun _ h9 => h9) rfl dX6_back_1 ?_
  refine jwv (runV ⟨hx, hb, hml, hown, hts⟩ wf_X1_turnBack ml_X6_79 (c1_turnBack l dC dI cs ac _ c_row c_made c_size  hq) ⟨⟨rfl, rfl⟩, by decide, by decide⟩ (preW (hP.sub (ws' := wX1 cs ac c_row c_made c_size) [39, 40, 41] rfl) hK hN (hD.sub (ws' := wX1 cs ac c_row c_made c_size) [39, 40, 41] (by decide) rfl)) hK hP rfl 39 rfl rfl hl.1 rfl (Nat.le_of_ble_eq_true rfl) dX6_back_4 ⟨(Nat.le_of_ble_eq_true rfl), (Nat.le_of_ble_eq_true rfl)⟩) hP hD hS hA 39 42 rfl (fun  u6 H locs hq hP hD hS => ?_)
  obtain ⟨c_row_4, c_made_5⟩ := u6
  try dsimp only at hq
  have hP : va_P (dC, dI) vwCl (wX6 cs ah sh al bx aw ac at_ rr ru tl h_size h_opened h_tal s0_row s0_made s0_size s1_row s1_made s1_size s2_row s2_made s2_size s3_row s3_made s3_size l_len l_ways l_box w_used w_kind w_size w_left w_last w_top w_wanted c_row_4 c_made_5 c_size t_fac t_der t_rec t_rut t_ris) H := hP
  have hD : va_D A (wX6 cs ah sh al bx aw ac at_ rr ru tl h_size h_opened h_tal s0_row s0_made s0_size s1_row s1_made s1_size s2_row s2_made s2_size s3_row s3_made s3_size l_len l_ways l_box w_used w_kind w_size w_left w_last w_top w_wanted c_row_4 c_made_5 c_size t_fac t_der t_rec t_rut t_ris) := hD
  refine lv_iconst (v := (1 : Int32)) hx hb dX6_back_7 (by decide) ?_
  exact W.iret (v := (1 : Int32)) hx hb hr (fun t ht hW => ⟨⟨(1 : Int32), (c_row_4, c_made_5), rfl, hq, Bw_mk (by rw [ht]; exact hP) (va_K.moved hW.alike hK) hD⟩, hS.F ht⟩) hS.2.2 dX6_back_8
set_option maxHeartbeats 4000000 in
set_option maxRecDepth 100000 in
theorem c6_number (l : Launch) (dC : Nat → ClassId) (dI : Nat → Nat → Nat) (cs : Nat → ClassId) (ah : Nat → Nat) (sh : Nat → Nat → Nat) (al : Nat → Nat) (bx : Nat → Nat) (aw : Nat → Nat) (ac : Nat → Nat) (at_ : Nat → Nat) (rr : Nat → Nat) (ru : Nat → Nat) (tl : va_W) (sz : Nat) (h_size : Int32) (h_opened : Int32) (h_tal : Nat → Option Nat) (s0_row : Nat → Int32) (s0_made : Nat → Int32) (s0_size : Int32) (s1_row : Nat → Int32) (s1_made : Nat → Int32) (s1_size : Int32) (s2_row : Nat → Int32) (s2_made : Nat → Int32) (s2_size : Int32) (s3_row : Nat → Int32) (s3_made : Nat → Int32) (s3_size : Int32) (l_len : Nat → Int32) (l_ways : Nat → Int64) (l_box : Nat → Nat → Int32) (w_used : Nat → Int32) (w_kind : Int32) (w_size : Int32) (w_left : Int32) (w_last : Int32) (w_top : Int32) (w_wanted : Int32) (c_row : Nat → Int32) (c_made : Nat → Int32) (c_size : Int32) (t_fac : Nat → Int64) (t_der : Nat → Int64) (t_rec : Nat → Nat → Int64) (t_rut : Nat → Nat → Int64) (t_ris : Nat → Int64) (a1 : Int32) {Q : Int32 → (Nat → Int32) → Prop} (hq : q6_number c_row c_size c_made a1 Q) : Met l yX6_number (.code yX6_number cX6_number 2 (some .int) :: gt) ({ frames := 5, cells := 0, slots := 0, locals := 108 } : Room) (va_Pc [.ref (ah 0), .int a1] (Pw (dC, dI) (KA cs) (wX6 cs ah sh al bx aw ac at_ rr ru tl h_size h_opened h_tal s0_row s0_made s0_size s1_row s1_made s1_size s2_row s2_made s2_size s3_row s3_made s3_size l_len l_ways l_box w_used w_kind w_size w_left w_last w_top w_wanted c_row c_made c_size t_fac t_der t_rec t_rut t_ris) sz)) (va_Qi (fun (r : Int32) (u : (Nat → Int32)) => Q r u) (Bw (dC, dI) (KA cs) (va_A (wX6 cs ah sh al bx aw ac at_ rr ru tl h_size h_opened h_tal s0_row s0_made s0_size s1_row s1_made s1_size s2_row s2_made s2_size s3_row s3_made s3_size l_len l_ways l_box w_used w_kind w_size w_left w_last w_top w_wanted c_row c_made c_size t_fac t_der t_rec t_rut t_ris) sz) (fun u : (Nat → Int32) => (wX6 cs ah sh al bx aw ac at_ rr ru tl h_size h_opened h_tal s0_row s0_made s0_size s1_row s1_made s1_size s2_row s2_made s2_size s3_row s3_made s3_size l_len l_ways l_box w_used w_kind w_size w_left w_last w_top w_wanted c_row u c_size t_fac t_der t_rec t_rut t_ris))) (va_A (wX6 cs ah sh al bx aw ac at_ rr ru tl h_size h_opened h_tal s0_row s0_made s0_size s1_row s1_made s1_size s2_row s2_made s2_size s3_row s3_made s3_size l_len l_ways l_box w_used w_kind w_size w_left w_last w_top w_wanted c_row c_made c_size t_fac t_der t_rec t_rut t_ris) sz)) 0 0 (va_A (wX6 cs ah sh al bx aw ac at_ rr ru tl h_size h_opened h_tal s0_row s0_made s0_size s1_row s1_made s1_size s2_row s2_made s2_size s3_row s3_made s3_size l_len l_ways l_box w_used w_kind w_size w_left w_last w_top w_wanted c_row c_made c_size t_fac t_der t_rec t_rut t_ris) sz) := by
  refine Met.ofW (cc := cX6_number) (maxL := 2) (ret := (some .int)) (by decide) rfl ?_
  intro p e s m args below meth c s₁ B hml hv
  obtain ⟨rfl, hsz, hP, hK, hD0, hN⟩ := hv
  have hx := B.exec
  have hb := B.bytes
  have hr := B.returns
  have hts0 := atoms_spec (ws := (.code yX6_number cX6_number 2 (some .int) :: gt)) B.pre
  have hts : ∀ w ∈ gt, w.before _ s = true := fun w h => hts0 w (List.mem_cons_of_mem _ h)
  have hown : s.vm.findClass RX6 = some m.cls := findClass_of_methodNamed B.named
  have hlocks := B.notSynchronized
  subst hsz
  have hD := hD0.self (sz := s.heap.size)
  generalize hAe : va_A (wX6 cs ah sh al bx aw ac at_ rr ru tl h_size h_opened h_tal s0_row s0_made s0_size s1_row s1_made s1_size s2_row s2_made s2_size s3_row s3_made s3_size l_len l_ways l_box w_used w_kind w_size w_left w_last w_top w_wanted c_row c_made c_size t_fac t_der t_rec t_rut t_ris) s.heap.size = A at hD ⊢
  have hA : ∀ q : Nat, s.heap.size ≤ q → A q := fun q h => by rw [← hAe]; exact Or.inr h
  have hS : va_S A s.heap s.heap [] := va_S.rf
  have hl := lv_entry ([.ref (ah 0), .int a1]) (n := 2) (Nat.le_of_ble_eq_true rfl)
  rw [lg_entry_eq]
  generalize (lg_sl ([.ref (ah 0), .int a1]) ++ List.replicate (2 - (lg_sl ([.ref (ah 0), .int a1])).length) Slot.unset).toArray = ls at hl ⊢
  have hl : lv_has ls 2 [(0, .ref (ah 0)), (1, .int a1)] := hl
  unfold q6_number at hq
  refine lv_iload_n hx hb dX6_number_0 rfl (lv_at hl 1 rfl) ?_
  refine roi (runS ⟨hx, hb, hml, hown, hts⟩ ws_X6_isKind ml_X6_82 (c6_isKind l dC dI cs   a1 hq) ⟨⟨rfl, rfl⟩, by decide, by decide⟩ (preR va_P_nil hK hN) hN rfl hl.1 rfl (Nat.le_of_ble_eq_true rfl) dX6_number_1 ⟨(Nat.le_of_ble_eq_true rfl), (Nat.le_of_ble_eq_true rfl)⟩) (fun r6 hq => ?_)
  refine lv_if_eq (tgt := 18) hx hb dX6_number_4 (by decide) (fun c7 => ?_) (fun c7 => ?_)
  · have hq := hq.1 c7
    refine lv_bipush (v := (-2 : Int32)) hx hb dX6_number_18 (by decide) ?_
    exact W.iret (v := (-2 : Int32)) hx hb hr (fun t ht hW => ⟨⟨(-2 : Int32), c_made, rfl, hq, Bw_mk (by rw [ht]; exact hP) (va_K.moved hW.alike hK) hD⟩, hS.F ht⟩) hS.2.2 dX6_number_20
  · have hq := hq.2 c7
    refine lv_aload_n hx hb dX6_number_7 rfl (lv_at hl 0 rfl) ?_
    refine va_get (D := (dC, dI)) (ci := 6) (v := .ref (ac 0)) (C := RX6) (T := TX6) (N := 8) hx hb hts uwX6 hown hK hP 0 rfl rfl 0 (by decide) (hts _ fl_X6_10) (fun _ h9 => h9) rfl dX6_number_8 ?_
    refine lv_iload_n hx hb dX6_number_11 rfl (lv_at hl 1 rfl) ?_
    refine jwi (runV ⟨hx, hb, hml, hown, hts⟩ wf_X1_numberOf ml_X6_85 (c1_numberOf l dC dI cs ac _ c_row c_made c_size a1 hq) ⟨⟨rfl, rfl⟩, by decide, by decide⟩ (preW (hP.sub (ws' := wX1 cs ac c_row c_made c_size) [39, 40, 41] rfl) hK hN (hD.sub (ws' := wX1 cs ac c_row c_made c_size) [39, 40, 41] (by decide) rfl)) hK hP rfl 39 rfl rfl hl.1 rfl (Nat.le_of_ble_eq_true rfl) dX6_number_12 ⟨(Nat.le_of_ble_eq_true rfl), (Nat.le_of_ble_eq_true rfl)⟩) hP hD hS hA 39 42 rfl (fun r8 c_made_9 H locs hq hP hD hS => ?_)
    have hP : va_P (dC, dI) vwCl (wX6 cs ah sh al bx aw ac at_ rr ru tl h_size h_opened h_tal s0_row s0_made s0_size s1_row s1_made s1_size s2_row s2_made s2_size s3_row s3_made s3_size l_len l_ways l_box w_used w_kind w_size w_left w_last w_top w_wanted c_row c_made_9 c_size t_fac t_der t_rec t_rut t_ris) H := hP
    have hD : va_D A (wX6 cs ah sh al bx aw ac at_ rr ru tl h_size h_opened h_tal s0_row s0_made s0_size s1_row s1_made s1_size s2_row s2_made s2_size s3_row s3_made s3_size l_len l_ways l_box w_used w_kind w_size w_left w_last w_top w_wanted c_row c_made_9 c_size t_fac t_der t_rec t_rut t_ris) := hD
    refine lv_goto (tgt := 20) hx hb dX6_number_15 (by decide) ?_
    exact W.iret (v := r8) hx hb hr (fun t ht hW => ⟨⟨r8, c_made_9, rfl, hq, Bw_mk (by rw [ht]; exact hP) (va_K.moved hW.alike hK) hD⟩, hS.F ht⟩) hS.2.2 dX6_number_20
set_option maxHeartbeats 4000000 in
set_option maxRecDepth 100000 in
theorem c6_row (l : Launch) (dC : Nat → ClassId) (dI : Nat → Nat → Nat) (cs : Nat → ClassId) (ah : Nat → Nat) (sh : Nat → Nat → Nat) (al : Nat → Nat) (bx : Nat → Nat) (aw : Nat → Nat) (ac : Nat → Nat) (at_ : Nat → Nat) (rr : Nat → Nat) (ru : Nat → Nat) (tl : va_W) (sz : Nat) (h_size : Int32) (h_opened : Int32) (h_tal : Nat → Option Nat) (s0_row : Nat → Int32) (s0_made : Nat → Int32) (s0_size : Int32) (s1_row : Nat → Int32) (s1_made : Nat → Int32) (s1_size : Int32) (s2_row : Nat → Int32) (s2_made : Nat → Int32) (s2_size : Int32) (s3_row : Nat → Int32) (s3_made : Nat → Int32) (s3_size : Int32) (l_len : Nat → Int32) (l_ways : Nat → Int64) (l_box : Nat → Nat → Int32) (w_used : Nat → Int32) (w_kind : Int32) (w_size : Int32) (w_left : Int32) (w_last : Int32) (w_top : Int32) (w_wanted : Int32) (c_row : Nat → Int32) (c_made : Nat → Int32) (c_size : Int32) (t_fac : Nat → Int64) (t_der : Nat → Int64) (t_rec : Nat → Nat → Int64) (t_rut : Nat → Nat → Int64) (t_ris : Nat → Int64) (a1 : Int32) (a2 : Int32) (a3 : Int64) {Q : Int32 → (Nat → Int32) → Int32 → Int32 → Int32 → Int32 → Int32 → Int32 → (Nat → Int32) → (Nat → Int32) → Prop} (hq : q6_row h_size c_size t_fac t_rec t_ris w_used w_kind w_size w_left w_last w_top w_wanted c_row c_made a1 a2 a3 Q) : Met l yX6_row (.code yX6_row cX6_row 5 (some .int) :: gt) ({ frames := 5, cells := 0, slots := 0, locals := 123 } : Room) (va_Pc [.ref (ah 0), .int a1, .int a2, .long a3] (Pw (dC, dI) (KA cs) (wX6 cs ah sh al bx aw ac at_ rr ru tl h_size h_opened h_tal s0_row s0_made s0_size s1_row s1_made s1_size s2_row s2_made s2_size s3_row s3_made s3_size l_len l_ways l_box w_used w_kind w_size w_left w_last w_top w_wanted c_row c_made c_size t_fac t_der t_rec t_rut t_ris) sz)) (va_Qi (fun (r : Int32) (u : (Nat → Int32) × Int32 × Int32 × Int32 × Int32 × Int32 × Int32 × (Nat → Int32) × (Nat → Int32)) => Q r u.1 u.2.1 u.2.2.1 u.2.2.2.1 u.2.2.2.2.1 u.2.2.2.2.2.1 u.2.2.2.2.2.2.1 u.2.2.2.2.2.2.2.1 u.2.2.2.2.2.2.2.2) (Bw (dC, dI) (KA cs) (va_A (wX6 cs ah sh al bx aw ac at_ rr ru tl h_size h_opened h_tal s0_row s0_made s0_size s1_row s1_made s1_size s2_row s2_made s2_size s3_row s3_made s3_size l_len l_ways l_box w_used w_kind w_size w_left w_last w_top w_wanted c_row c_made c_size t_fac t_der t_rec t_rut t_ris) sz) (fun u : (Nat → Int32) × Int32 × Int32 × Int32 × Int32 × Int32 × Int32 × (Nat → Int32) × (Nat → Int32) => (wX6 cs ah sh al bx aw ac at_ rr ru tl h_size h_opened h_tal s0_row s0_made s0_size s1_row s1_made s1_size s2_row s2_made s2_size s3_row s3_made s3_size l_len l_ways l_box u.1 u.2.1 u.2.2.1 u.2.2.2.1 u.2.2.2.2.1 u.2.2.2.2.2.1 u.2.2.2.2.2.2.1 u.2.2.2.2.2.2.2.1 u.2.2.2.2.2.2.2.2 c_size t_fac t_der t_rec t_rut t_ris))) (va_A (wX6 cs ah sh al bx aw ac at_ rr ru tl h_size h_opened h_tal s0_row s0_made s0_size s1_row s1_made s1_size s2_row s2_made s2_size s3_row s3_made s3_size l_len l_ways l_box w_used w_kind w_size w_left w_last w_top w_wanted c_row c_made c_size t_fac t_der t_rec t_rut t_ris) sz)) 0 0 (va_A (wX6 cs ah sh al bx aw ac at_ rr ru tl h_size h_opened h_tal s0_row s0_made s0_size s1_row s1_made s1_size s2_row s2_made s2_size s3_row s3_made s3_size l_len l_ways l_box w_used w_kind w_size w_left w_last w_top w_wanted c_row c_made c_size t_fac t_der t_rec t_rut t_ris) sz) := by
  refine Met.ofW (cc := cX6_row) (maxL := 5) (ret := (some .int)) (by decide) rfl ?_
  intro p e s m args below meth c s₁ B hml hv
  obtain ⟨rfl, hsz, hP, hK, hD0, hN⟩ := hv
  have hx := B.exec
  have hb := B.bytes
  have hr := B.returns
  have hts0 := atoms_spec (ws := (.code yX6_row cX6_row 5 (some .int) :: gt)) B.pre
  have hts : ∀ w ∈ gt, w.before _ s = true := fun w h => hts0 w (List.mem_cons_of_mem _ h)
  have hown : s.vm.findClass RX6 = some m.cls := findClass_of_methodNamed B.named
  have hlocks := B.notSynchronized
  subst hsz
  have hD := hD0.self (sz := s.heap.size)
  generalize hAe : va_A (wX6 cs ah sh al bx aw ac at_ rr ru tl h_size h_opened h_tal s0_row s0_made s0_size s1_row s1_made s1_size s2_row s2_made s2_size s3_row s3_made s3_size l_len l_ways l_box w_used w_kind w_size w_left w_last w_top w_wanted c_row c_made c_size t_fac t_der t_rec t_rut t_ris) s.heap.size = A at hD ⊢
  have hA : ∀ q : Nat, s.heap.size ≤ q → A q := fun q h => by rw [← hAe]; exact Or.inr h
  have hS : va_S A s.heap s.heap [] := va_S.rf
  have hl := lv_entry ([.ref (ah 0), .int a1, .int a2, .long a3]) (n := 5) (Nat.le_of_ble_eq_true rfl)
  rw [lg_entry_eq]
  generalize (lg_sl ([.ref (ah 0), .int a1, .int a2, .long a3]) ++ List.replicate (5 - (lg_sl ([.ref (ah 0), .int a1, .int a2, .long a3])).length) Slot.unset).toArray = ls at hl ⊢
  have hl : lv_has ls 5 [(0, .ref (ah 0)), (1, .int a1), (2, .int a2), (3, .long a3)] := hl
  unfold q6_row at hq
  refine lv_iload_n hx hb dX6_row_0 rfl (lv_at hl 1 rfl) ?_
  refine roi (runS ⟨hx, hb, hml, hown, hts⟩ ws_X6_isRowKind ml_X6_116 (c6_isRowKind l dC dI cs   a1 hq) ⟨⟨rfl, rfl⟩, by decide, by decide⟩ (preR va_P_nil hK hN) hN rfl hl.1 rfl (Nat.le_of_ble_eq_true rfl) dX6_row_1 ⟨(Nat.le_of_ble_eq_true rfl), (Nat.le_of_ble_eq_true rfl)⟩) (fun r22 hq => ?_)
  refine lv_if_eq (tgt := 13) hx hb dX6_row_4 (by decide) (fun c23 => ?_) (fun c23 => ?_)
  · have hq := hq.1 c23
    refine lv_bipush (v := (-2 : Int32)) hx hb dX6_row_13 (by decide) ?_
    exact W.iret (v := (-2 : Int32)) hx hb hr (fun t ht hW => ⟨⟨(-2 : Int32), (w_used, w_kind, w_size, w_left, w_last, w_top, w_wanted, c_row, c_made), rfl, hq, Bw_mk (by rw [ht]; exact hP) (va_K.moved hW.alike hK) hD⟩, hS.F ht⟩) hS.2.2 dX6_row_15
  · have hq := hq.2 c23
    refine lv_lload_n hx hb dX6_row_7 rfl (lv_at hl 3 rfl) ?_
    refine lv_lconst (v := (0 : Int64)) hx hb dX6_row_8 (by decide) ?_
    refine lc_ge (tgt := 16) hx hb dX6_row_9 dX6_row_10 (by decide) (fun c24 => ?_) (fun c24 => ?_)
    · have hq := hq.1 c24
      refine lv_aload_n hx hb dX6_row_16 rfl (lv_at hl 0 rfl) ?_
      refine va_get (D := (dC, dI)) (ci := 6) (v := .ref (aw 0)) (C := RX6) (T := TX6) (N := 8) hx hb hts uwX6 hown hK hP 0 rfl rfl 4 (by decide) (hts _ fl_X6_39) (fun _ h9 => h9) rfl dX6_row_17 ?_
      refine lv_iload_n hx hb dX6_row_20 rfl (lv_at hl 1 rfl) ?_
      refine lv_aload_n hx hb dX6_row_21 rfl (lv_at hl 0 rfl) ?_
      refine va_get (D := (dC, dI)) (ci := 6) (v := .int h_size) (C := RX6) (T := TX6) (N := 8) hx hb hts uwX6 hown hK hP 0 rfl rfl 6 (by decide) (hts _ fl_X6_102) (fun _ h9 => h9) rfl dX6_row_22 ?_
      refine lv_iload_n hx hb dX6_row_25 rfl (lv_at hl 2 rfl) ?_
      refine jwv (runV ⟨hx, hb, hml, hown, hts⟩ wf_X5_start ml_X6_119 (c5_start l dC dI cs aw at_ rr ru _ w_used w_kind w_size w_left w_last w_top w_wanted t_fac t_der t_rec t_rut t_ris a1 h_size a2 hq) ⟨⟨rfl, rfl⟩, by decide, by decide⟩ (preW3 (hP.sub (ws' := wX5 cs aw at_ w_used w_kind w_size w_left w_last w_top w_wanted) [37, 38] rfl) (hP.sub (ws' := wX3 cs at_ rr ru t_fac t_der t_rec t_rut t_ris) [42, 43, 44, 45, 46, 47, 48, 49, 50, 51, 52, 53, 54, 55, 56, 57, 58, 59, 60, 61, 62, 63, 64, 65, 66, 67, 68, 69, 70, 71, 72, 73, 74, 75, 76, 77, 78, 79, 80, 81, 82, 83, 84, 85] rfl) hK hN (hD.sub (ws' := (wX5 cs aw at_ w_used w_kind w_size w_left w_last w_top w_wanted) ++ (wX3 cs at_ rr ru t_fac t_der t_rec t_rut t_ris)) [37, 38, 42, 43, 44, 45, 46, 47, 48, 49, 50, 51, 52, 53, 54, 55, 56, 57, 58, 59, 60, 61, 62, 63, 64, 65, 66, 67, 68, 69, 70, 71, 72, 73, 74, 75, 76, 77, 78, 79, 80, 81, 82, 83, 84, 85] (by decide) rfl)) hK hP rfl 37 rfl rfl hl.1 rfl (Nat.le_of_ble_eq_true rfl) dX6_row_26 ⟨(Nat.le_of_ble_eq_true rfl), (Nat.le_of_ble_eq_true rfl)⟩) hP hD hS hA 37 39 rfl (fun  u32 H locs hq hP hD hS => ?_)
      obtain ⟨w_used_25, w_kind_26, w_size_27, w_left_28, w_last_29, w_top_30, w_wanted_31⟩ := u32
      try dsimp only at hq
      have hP : va_P (dC, dI) vwCl (wX6 cs ah sh al bx aw ac at_ rr ru tl h_size h_opened h_tal s0_row s0_made s0_size s1_row s1_made s1_size s2_row s2_made s2_size s3_row s3_made s3_size l_len l_ways l_box w_used_25 w_kind_26 w_size_27 w_left_28 w_last_29 w_top_30 w_wanted_31 c_row c_made c_size t_fac t_der t_rec t_rut t_ris) H := hP
      have hD : va_D A (wX6 cs ah sh al bx aw ac at_ rr ru tl h_size h_opened h_tal s0_row s0_made s0_size s1_row s1_made s1_size s2_row s2_made s2_size s3_row s3_made s3_size l_len l_ways l_box w_used_25 w_kind_26 w_size_27 w_left_28 w_last_29 w_top_30 w_wanted_31 c_row c_made c_size t_fac t_der t_rec t_rut t_ris) := hD
      refine lv_lload_n hx hb dX6_row_29 rfl (lv_at hl 3 rfl) ?_
      refine lv_aload_n hx hb dX6_row_30 rfl (lv_at hl 0 rfl) ?_
      refine va_get (D := (dC, dI)) (ci := 6) (v := .ref (aw 0)) (C := RX6) (T := TX6) (N := 8) hx hb hts uwX6 hown hK hP 0 rfl rfl 4 (by decide) (hts _ fl_X6_39) (fun _ h9 => h9) rfl dX6_row_31 ?_
      refine rol (runV ⟨hx, hb, hml, hown, hts⟩ wf_X5_waysAtStart ml_X6_123 (c5_waysAtStart l dC dI cs aw at_ rr ru w_used_25 w_kind_26 w_size_27 w_left_28 w_last_29 w_top_30 w_wanted_31 t_fac t_der t_rec t_rut t_ris  hq) ⟨⟨rfl, rfl⟩, by decide, by decide⟩ (preR (va_P_app (hP.sub (ws' := wX5 cs aw at_ w_used_25 w_kind_26 w_size_27 w_left_28 w_last_29 w_top_30 w_wanted_31) [37, 38] rfl) (hP.sub (ws' := wX3 cs at_ rr ru t_fac t_der t_rec t_rut t_ris) [42, 43, 44, 45, 46, 47, 48, 49, 50, 51, 52, 53, 54, 55, 56, 57, 58, 59, 60, 61, 62, 63, 64, 65, 66, 67, 68, 69, 70, 71, 72, 73, 74, 75, 76, 77, 78, 79, 80, 81, 82, 83, 84, 85] rfl)) hK hN) hK hP rfl 37 rfl rfl hl.1 rfl (Nat.le_of_ble_eq_true rfl) dX6_row_34 ⟨(Nat.le_of_ble_eq_true rfl), (Nat.le_of_ble_eq_true rfl)⟩) (fun r33 hq => ?_)
      refine lc_lt (tgt := 43) hx hb dX6_row_37 dX6_row_38 (by decide) (fun c34 => ?_) (fun c34 => ?_)
      · have hq := hq.1 c34
        refine lv_aload_n hx hb dX6_row_43 rfl (lv_at hl 0 rfl) ?_
        refine va_get (D := (dC, dI)) (ci := 6) (v := .ref (aw 0)) (C := RX6) (T := TX6) (N := 8) hx hb hts uwX6 hown hK hP 0 rfl rfl 4 (by decide) (hts _ fl_X6_39) (fun _ h9 => h9) rfl dX6_row_44 ?_
        refine lv_lload_n hx hb dX6_row_47 rfl (lv_at hl 3 rfl) ?_
        refine lv_aload_n hx hb dX6_row_48 rfl (lv_at hl 0 rfl) ?_
        refine va_get (D := (dC, dI)) (ci := 6) (v := .ref (ac 0)) (C := RX6) (T := TX6) (N := 8) hx hb hts uwX6 hown hK hP 0 rfl rfl 0 (by decide) (hts _ fl_X6_10) (fun _ h9 => h9) rfl dX6_row_49 ?_
        refine jwv (runV ⟨hx, hb, hml, hown, hts⟩ wf_X5_writeRow ml_X6_126 (c5_writeRow l dC dI cs aw at_ ac rr ru _ w_used_25 w_kind_26 w_size_27 w_left_28 w_last_29 w_top_30 w_wanted_31 c_row c_made c_size t_fac t_der t_rec t_rut t_ris a3 hq) ⟨⟨rfl, rfl⟩, by decide, by decide⟩ (preW3 (hP.sub (ws' := wX5o cs aw at_ ac w_used_25 w_kind_26 w_size_27 w_left_28 w_last_29 w_top_30 w_wanted_31 c_row c_made c_size) [37, 38, 39, 40, 41] rfl) (hP.sub (ws' := wX3 cs at_ rr ru t_fac t_der t_rec t_rut t_ris) [42, 43, 44, 45, 46, 47, 48, 49, 50, 51, 52, 53, 54, 55, 56, 57, 58, 59, 60, 61, 62, 63, 64, 65, 66, 67, 68, 69, 70, 71, 72, 73, 74, 75, 76, 77, 78, 79, 80, 81, 82, 83, 84, 85] rfl) hK hN (hD.sub (ws' := (wX5o cs aw at_ ac w_used_25 w_kind_26 w_size_27 w_left_28 w_last_29 w_top_30 w_wanted_31 c_row c_made c_size) ++ (wX3 cs at_ rr ru t_fac t_der t_rec t_rut t_ris)) [37, 38, 39, 40, 41, 42, 43, 44, 45, 46, 47, 48, 49, 50, 51, 52, 53, 54, 55, 56, 57, 58, 59, 60, 61, 62, 63, 64, 65, 66, 67, 68, 69, 70, 71, 72, 73, 74, 75, 76, 77, 78, 79, 80, 81, 82, 83, 84, 85] (by decide) rfl)) hK hP rfl 37 rfl rfl hl.1 rfl (Nat.le_of_ble_eq_true rfl) dX6_row_52 ⟨(Nat.le_of_ble_eq_true rfl), (Nat.le_of_ble_eq_true rfl)⟩) hP hD hS hA 37 42 rfl (fun  u42 H locs hq hP hD hS => ?_)
        obtain ⟨w_used_35, w_left_36, w_last_37, w_top_38, w_wanted_39, c_row_40, c_made_41⟩ := u42
        try dsimp only at hq
        have hP : va_P (dC, dI) vwCl (wX6 cs ah sh al bx aw ac at_ rr ru tl h_size h_opened h_tal s0_row s0_made s0_size s1_row s1_made s1_size s2_row s2_made s2_size s3_row s3_made s3_size l_len l_ways l_box w_used_35 w_kind_26 w_size_27 w_left_36 w_last_37 w_top_38 w_wanted_39 c_row_40 c_made_41 c_size t_fac t_der t_rec t_rut t_ris) H := hP
        have hD : va_D A (wX6 cs ah sh al bx aw ac at_ rr ru tl h_size h_opened h_tal s0_row s0_made s0_size s1_row s1_made s1_size s2_row s2_made s2_size s3_row s3_made s3_size l_len l_ways l_box w_used_35 w_kind_26 w_size_27 w_left_36 w_last_37 w_top_38 w_wanted_39 c_row_40 c_made_41 c_size t_fac t_der t_rec t_rut t_ris) := hD
        refine lv_iconst (v := (1 : Int32)) hx hb dX6_row_55 (by decide) ?_
        exact W.iret (v := (1 : Int32)) hx hb hr (fun t ht hW => ⟨⟨(1 : Int32), (w_used_35, w_kind_26, w_size_27, w_left_36, w_last_37, w_top_38, w_wanted_39, c_row_40, c_made_41), rfl, hq, Bw_mk (by rw [ht]; exact hP) (va_K.moved hW.alike hK) hD⟩, hS.F ht⟩) hS.2.2 dX6_row_56
      · have hq := hq.2 c34
        refine lv_iconst (v := (-1 : Int32)) hx hb dX6_row_41 (by decide) ?_
        exact W.iret (v := (-1 : Int32)) hx hb hr (fun t ht hW => ⟨⟨(-1 : Int32), (w_used_25, w_kind_26, w_size_27, w_left_28, w_last_29, w_top_30, w_wanted_31, c_row, c_made), rfl, hq, Bw_mk (by rw [ht]; exact hP) (va_K.moved hW.alike hK) hD⟩, hS.F ht⟩) hS.2.2 dX6_row_42
    · have hq := hq.2 c24
      refine lv_bipush (v := (-2 : Int32)) hx hb dX6_row_13 (by decide) ?_
      exact W.iret (v := (-2 : Int32)) hx hb hr (fun t ht hW => ⟨⟨(-2 : Int32), (w_used, w_kind, w_size, w_left, w_last, w_top, w_wanted, c_row, c_made), rfl, hq, Bw_mk (by rw [ht]; exact hP) (va_K.moved hW.alike hK) hD⟩, hS.F ht⟩) hS.2.2 dX6_row_15
set_option maxHeartbeats 4000000 in
set_option maxRecDepth 100000 in
theorem c6_place (l : Launch) (dC : Nat → ClassId) (dI : Nat → Nat → Nat) (cs : Nat → ClassId) (ah : Nat → Nat) (sh : Nat → Nat → Nat) (al : Nat → Nat) (bx : Nat → Nat) (aw : Nat → Nat) (ac : Nat → Nat) (at_ : Nat → Nat) (rr : Nat → Nat) (ru : Nat → Nat) (tl : va_W) (sz : Nat) (h_size : Int32) (h_opened : Int32) (h_tal : Nat → Option Nat) (s0_row : Nat → Int32) (s0_made : Nat → Int32) (s0_size : Int32) (s1_row : Nat → Int32) (s1_made : Nat → Int32) (s1_size : Int32) (s2_row : Nat → Int32) (s2_made : Nat → Int32) (s2_size : Int32) (s3_row : Nat → Int32) (s3_made : Nat → Int32) (s3_size : Int32) (l_len : Nat → Int32) (l_ways : Nat → Int64) (l_box : Nat → Nat → Int32) (w_used : Nat → Int32) (w_kind : Int32) (w_size : Int32) (w_left : Int32) (w_last : Int32) (w_top : Int32) (w_wanted : Int32) (c_row : Nat → Int32) (c_made : Nat → Int32) (c_size : Int32) (t_fac : Nat → Int64) (t_der : Nat → Int64) (t_rec : Nat → Nat → Int64) (t_rut : Nat → Nat → Int64) (t_ris : Nat → Int64) (a1 : Int32) {Q : Int64 → (Nat → Int32) → Int32 → Int32 → Int32 → Int32 → Int32 → Int32 → (Nat → Int32) → Prop} (hq : q6_place h_size c_row c_size t_fac t_rec t_ris w_used w_kind w_size w_left w_last w_top w_wanted c_made a1 Q) : Met l yX6_place (.code yX6_place cX6_place 2 (some .long) :: gt) ({ frames := 5, cells := 0, slots := 0, locals := 120 } : Room) (va_Pc [.ref (ah 0), .int a1] (Pw (dC, dI) (KA cs) (wX6 cs ah sh al bx aw ac at_ rr ru tl h_size h_opened h_tal s0_row s0_made s0_size s1_row s1_made s1_size s2_row s2_made s2_size s3_row s3_made s3_size l_len l_ways l_box w_used w_kind w_size w_left w_last w_top w_wanted c_row c_made c_size t_fac t_der t_rec t_rut t_ris) sz)) (va_Ql (fun (r : Int64) (u : (Nat → Int32) × Int32 × Int32 × Int32 × Int32 × Int32 × Int32 × (Nat → Int32)) => Q r u.1 u.2.1 u.2.2.1 u.2.2.2.1 u.2.2.2.2.1 u.2.2.2.2.2.1 u.2.2.2.2.2.2.1 u.2.2.2.2.2.2.2) (Bw (dC, dI) (KA cs) (va_A (wX6 cs ah sh al bx aw ac at_ rr ru tl h_size h_opened h_tal s0_row s0_made s0_size s1_row s1_made s1_size s2_row s2_made s2_size s3_row s3_made s3_size l_len l_ways l_box w_used w_kind w_size w_left w_last w_top w_wanted c_row c_made c_size t_fac t_der t_rec t_rut t_ris) sz) (fun u : (Nat → Int32) × Int32 × Int32 × Int32 × Int32 × Int32 × Int32 × (Nat → Int32) => (wX6 cs ah sh al bx aw ac at_ rr ru tl h_size h_opened h_tal s0_row s0_made s0_size s1_row s1_made s1_size s2_row s2_made s2_size s3_row s3_made s3_size l_len l_ways l_box u.1 u.2.1 u.2.2.1 u.2.2.2.1 u.2.2.2.2.1 u.2.2.2.2.2.1 u.2.2.2.2.2.2.1 c_row u.2.2.2.2.2.2.2 c_size t_fac t_der t_rec t_rut t_ris))) (va_A (wX6 cs ah sh al bx aw ac at_ rr ru tl h_size h_opened h_tal s0_row s0_made s0_size s1_row s1_made s1_size s2_row s2_made s2_size s3_row s3_made s3_size l_len l_ways l_box w_used w_kind w_size w_left w_last w_top w_wanted c_row c_made c_size t_fac t_der t_rec t_rut t_ris) sz)) 0 0 (va_A (wX6 cs ah sh al bx aw ac at_ rr ru tl h_size h_opened h_tal s0_row s0_made s0_size s1_row s1_made s1_size s2_row s2_made s2_size s3_row s3_made s3_size l_len l_ways l_box w_used w_kind w_size w_left w_last w_top w_wanted c_row c_made c_size t_fac t_der t_rec t_rut t_ris) sz) := by
  refine Met.ofW (cc := cX6_place) (maxL := 2) (ret := (some .long)) (by decide) rfl ?_
  intro p e s m args below meth c s₁ B hml hv
  obtain ⟨rfl, hsz, hP, hK, hD0, hN⟩ := hv
  have hx := B.exec
  have hb := B.bytes
  have hr := B.returns
  have hts0 := atoms_spec (ws := (.code yX6_place cX6_place 2 (some .long) :: gt)) B.pre
  have hts : ∀ w ∈ gt, w.before _ s = true := fun w h => hts0 w (List.mem_cons_of_mem _ h)
  have hown : s.vm.findClass RX6 = some m.cls := findClass_of_methodNamed B.named
  have hlocks := B.notSynchronized
  subst hsz
  have hD := hD0.self (sz := s.heap.size)
  generalize hAe : va_A (wX6 cs ah sh al bx aw ac at_ rr ru tl h_size h_opened h_tal s0_row s0_made s0_size s1_row s1_made s1_size s2_row s2_made s2_size s3_row s3_made s3_size l_len l_ways l_box w_used w_kind w_size w_left w_last w_top w_wanted c_row c_made c_size t_fac t_der t_rec t_rut t_ris) s.heap.size = A at hD ⊢
  have hA : ∀ q : Nat, s.heap.size ≤ q → A q := fun q h => by rw [← hAe]; exact Or.inr h
  have hS : va_S A s.heap s.heap [] := va_S.rf
  have hl := lv_entry ([.ref (ah 0), .int a1]) (n := 2) (Nat.le_of_ble_eq_true rfl)
  rw [lg_entry_eq]
  generalize (lg_sl ([.ref (ah 0), .int a1]) ++ List.replicate (2 - (lg_sl ([.ref (ah 0), .int a1])).length) Slot.unset).toArray = ls at hl ⊢
  have hl : lv_has ls 2 [(0, .ref (ah 0)), (1, .int a1)] := hl
  have B37 : ∀ (s1 : Int32) (s2 : Int32) (s3 : Int32) (w_used : Nat → Int32) (w_kind : Int32) (w_size : Int32) (w_left : Int32) (w_last : Int32) (w_top : Int32) (w_wanted : Int32) (c_made : Nat → Int32) (H : Heap) (locs : List Loc) (ls : Array Slot), q6_place_37 h_size c_row c_size t_fac t_rec t_ris Q s1 s2 s3 w_used w_kind w_size w_left w_last w_top w_wanted c_made → va_P (dC, dI) vwCl (wX6 cs ah sh al bx aw ac at_ rr ru tl h_size h_opened h_tal s0_row s0_made s0_size s1_row s1_made s1_size s2_row s2_made s2_size s3_row s3_made s3_size l_len l_ways l_box w_used w_kind w_size w_left w_last w_top w_wanted c_row c_made c_size t_fac t_der t_rec t_rut t_ris) H → va_D A (wX6 cs ah sh al bx aw ac at_ rr ru tl h_size h_opened h_tal s0_row s0_made s0_size s1_row s1_made s1_size s2_row s2_made s2_size s3_row s3_made s3_size l_len l_ways l_box w_used w_kind w_size w_left w_last w_top w_wanted c_row c_made c_size t_fac t_der t_rec t_rut t_ris) → va_S A s.heap H locs → lv_has ls 2 [(0, .ref (ah 0))] → W p l e ({ frames := 5, cells := 0, slots := 0, locals := 120 } : Room) s m ([.ref (ah 0), .int a1] : List Value).toArray below meth c H locs 0 0 (MQ below (va_Ql (fun (r : Int64) (u : (Nat → Int32) × Int32 × Int32 × Int32 × Int32 × Int32 × Int32 × (Nat → Int32)) => Q r u.1 u.2.1 u.2.2.1 u.2.2.2.1 u.2.2.2.2.1 u.2.2.2.2.2.1 u.2.2.2.2.2.2.1 u.2.2.2.2.2.2.2) (Bw (dC, dI) (KA cs) A (fun u : (Nat → Int32) × Int32 × Int32 × Int32 × Int32 × Int32 × Int32 × (Nat → Int32) => (wX6 cs ah sh al bx aw ac at_ rr ru tl h_size h_opened h_tal s0_row s0_made s0_size s1_row s1_made s1_size s2_row s2_made s2_size s3_row s3_made s3_size l_len l_ways l_box u.1 u.2.1 u.2.2.1 u.2.2.2.1 u.2.2.2.2.1 u.2.2.2.2.2.1 u.2.2.2.2.2.2.1 c_row u.2.2.2.2.2.2.2 c_size t_fac t_der t_rec t_rut t_ris))) A) ([.ref (ah 0), .int a1] : List Value).toArray s 0 0 A) (F0 m 37 ls [.int s3, .int s2, .int s1, .ref (aw 0)]) := by
    intro s1 s2 s3 w_used w_kind w_size w_left w_last w_top w_wanted c_made H locs ls hq hP hD hS hl
    unfold q6_place_37 at hq
    refine jwv (runV ⟨hx, hb, hml, hown, hts⟩ wf_X5_start ml_X6_119 (c5_start l dC dI cs aw at_ rr ru _ w_used w_kind w_size w_left w_last w_top w_wanted t_fac t_der t_rec t_rut t_ris s1 s2 s3 hq) ⟨⟨rfl, rfl⟩, by decide, by decide⟩ (preW3 (hP.sub (ws' := wX5 cs aw at_ w_used w_kind w_size w_left w_last w_top w_wanted) [37, 38] rfl) (hP.sub (ws' := wX3 cs at_ rr ru t_fac t_der t_rec t_rut t_ris) [42, 43, 44, 45, 46, 47, 48, 49, 50, 51, 52, 53, 54, 55, 56, 57, 58, 59, 60, 61, 62, 63, 64, 65, 66, 67, 68, 69, 70, 71, 72, 73, 74, 75, 76, 77, 78, 79, 80, 81, 82, 83, 84, 85] rfl) hK hN (hD.sub (ws' := (wX5 cs aw at_ w_used w_kind w_size w_left w_last w_top w_wanted) ++ (wX3 cs at_ rr ru t_fac t_der t_rec t_rut t_ris)) [37, 38, 42, 43, 44, 45, 46, 47, 48, 49, 50, 51, 52, 53, 54, 55, 56, 57, 58, 59, 60, 61, 62, 63, 64, 65, 66, 67, 68, 69, 70, 71, 72, 73, 74, 75, 76, 77, 78, 79, 80, 81, 82, 83, 84, 85] (by decide) rfl)) hK hP rfl 37 rfl rfl hl.1 rfl (Nat.le_of_ble_eq_true rfl) dX6_place_37 ⟨(Nat.le_of_ble_eq_true rfl), (Nat.le_of_ble_eq_true rfl)⟩) hP hD hS hA 37 39 rfl (fun  u29 H locs hq hP hD hS => ?_)
    obtain ⟨w_used_22, w_kind_23, w_size_24, w_left_25, w_last_26, w_top_27, w_wanted_28⟩ := u29
    try dsimp only at hq
    have hP : va_P (dC, dI) vwCl (wX6 cs ah sh al bx aw ac at_ rr ru tl h_size h_opened h_tal s0_row s0_made s0_size s1_row s1_made s1_size s2_row s2_made s2_size s3_row s3_made s3_size l_len l_ways l_box w_used_22 w_kind_23 w_size_24 w_left_25 w_last_26 w_top_27 w_wanted_28 c_row c_made c_size t_fac t_der t_rec t_rut t_ris) H := hP
    have hD : va_D A (wX6 cs ah sh al bx aw ac at_ rr ru tl h_size h_opened h_tal s0_row s0_made s0_size s1_row s1_made s1_size s2_row s2_made s2_size s3_row s3_made s3_size l_len l_ways l_box w_used_22 w_kind_23 w_size_24 w_left_25 w_last_26 w_top_27 w_wanted_28 c_row c_made c_size t_fac t_der t_rec t_rut t_ris) := hD
    refine lv_aload_n hx hb dX6_place_40 rfl (lv_at hl 0 rfl) ?_
    refine va_get (D := (dC, dI)) (ci := 6) (v := .ref (aw 0)) (C := RX6) (T := TX6) (N := 8) hx hb hts uwX6 hown hK hP 0 rfl rfl 4 (by decide) (hts _ fl_X6_39) (fun _ h9 => h9) rfl dX6_place_41 ?_
    refine lv_aload_n hx hb dX6_place_44 rfl (lv_at hl 0 rfl) ?_
    refine va_get (D := (dC, dI)) (ci := 6) (v := .ref (ac 0)) (C := RX6) (T := TX6) (N := 8) hx hb hts uwX6 hown hK hP 0 rfl rfl 0 (by decide) (hts _ fl_X6_10) (fun _ h9 => h9) rfl dX6_place_45 ?_
    refine jwl (runV ⟨hx, hb, hml, hown, hts⟩ wf_X5_rowsAheadOf ml_X6_130 (c5_rowsAheadOf l dC dI cs aw at_ ac rr ru _ w_used_22 w_kind_23 w_size_24 w_left_25 w_last_26 w_top_27 w_wanted_28 c_row c_made c_size t_fac t_der t_rec t_rut t_ris  hq) ⟨⟨rfl, rfl⟩, by decide, by decide⟩ (preW3 (hP.sub (ws' := wX5o cs aw at_ ac w_used_22 w_kind_23 w_size_24 w_left_25 w_last_26 w_top_27 w_wanted_28 c_row c_made c_size) [37, 38, 39, 40, 41] rfl) (hP.sub (ws' := wX3 cs at_ rr ru t_fac t_der t_rec t_rut t_ris) [42, 43, 44, 45, 46, 47, 48, 49, 50, 51, 52, 53, 54, 55, 56, 57, 58, 59, 60, 61, 62, 63, 64, 65, 66, 67, 68, 69, 70, 71, 72, 73, 74, 75, 76, 77, 78, 79, 80, 81, 82, 83, 84, 85] rfl) hK hN (hD.sub (ws' := (wX5o cs aw at_ ac w_used_22 w_kind_23 w_size_24 w_left_25 w_last_26 w_top_27 w_wanted_28 c_row c_made c_size) ++ (wX3 cs at_ rr ru t_fac t_der t_rec t_rut t_ris)) [37, 38, 39, 40, 41, 42, 43, 44, 45, 46, 47, 48, 49, 50, 51, 52, 53, 54, 55, 56, 57, 58, 59, 60, 61, 62, 63, 64, 65, 66, 67, 68, 69, 70, 71, 72, 73, 74, 75, 76, 77, 78, 79, 80, 81, 82, 83, 84, 85] (by decide) rfl)) hK hP rfl 37 rfl rfl hl.1 rfl (Nat.le_of_ble_eq_true rfl) dX6_place_48 ⟨(Nat.le_of_ble_eq_true rfl), (Nat.le_of_ble_eq_true rfl)⟩) hP hD hS hA 37 42 rfl (fun r30 u36 H locs hq hP hD hS => ?_)
    obtain ⟨w_used_31, w_left_32, w_last_33, w_top_34, w_wanted_35⟩ := u36
    try dsimp only at hq
    have hP : va_P (dC, dI) vwCl (wX6 cs ah sh al bx aw ac at_ rr ru tl h_size h_opened h_tal s0_row s0_made s0_size s1_row s1_made s1_size s2_row s2_made s2_size s3_row s3_made s3_size l_len l_ways l_box w_used_31 w_kind_23 w_size_24 w_left_32 w_last_33 w_top_34 w_wanted_35 c_row c_made c_size t_fac t_der t_rec t_rut t_ris) H := hP
    have hD : va_D A (wX6 cs ah sh al bx aw ac at_ rr ru tl h_size h_opened h_tal s0_row s0_made s0_size s1_row s1_made s1_size s2_row s2_made s2_size s3_row s3_made s3_size l_len l_ways l_box w_used_31 w_kind_23 w_size_24 w_left_32 w_last_33 w_top_34 w_wanted_35 c_row c_made c_size t_fac t_der t_rec t_rut t_ris) := hD
    exact W.lret (v := r30) hx hb hr (fun t ht hW => ⟨⟨r30, (w_used_31, w_kind_23, w_size_24, w_left_32, w_last_33, w_top_34, w_wanted_35, c_made), rfl, hq, Bw_mk (by rw [ht]; exact hP) (va_K.moved hW.alike hK) hD⟩, hS.F ht⟩) hS.2.2 dX6_place_51
  unfold q6_place at hq
  refine lv_iload_n hx hb dX6_place_0 rfl (lv_at hl 1 rfl) ?_
  refine roi (runS ⟨hx, hb, hml, hown, hts⟩ ws_X6_isRowKind ml_X6_116 (c6_isRowKind l dC dI cs   a1 hq) ⟨⟨rfl, rfl⟩, by decide, by decide⟩ (preR va_P_nil hK hN) hN rfl hl.1 rfl (Nat.le_of_ble_eq_true rfl) dX6_place_1 ⟨(Nat.le_of_ble_eq_true rfl), (Nat.le_of_ble_eq_true rfl)⟩) (fun r37 hq => ?_)
  refine lv_if_ne (tgt := 11) hx hb dX6_place_4 (by decide) (fun c38 => ?_) (fun c38 => ?_)
  · have hq := hq.1 c38
    refine lv_aload_n hx hb dX6_place_11 rfl (lv_at hl 0 rfl) ?_
    refine va_get (D := (dC, dI)) (ci := 6) (v := .ref (aw 0)) (C := RX6) (T := TX6) (N := 8) hx hb hts uwX6 hown hK hP 0 rfl rfl 4 (by decide) (hts _ fl_X6_39) (fun _ h9 => h9) rfl dX6_place_12 ?_
    refine lv_iload_n hx hb dX6_place_15 rfl (lv_at hl 1 rfl) ?_
    refine lv_aload_n hx hb dX6_place_16 rfl (lv_at hl 0 rfl) ?_
    refine va_get (D := (dC, dI)) (ci := 6) (v := .int h_size) (C := RX6) (T := TX6) (N := 8) hx hb hts uwX6 hown hK hP 0 rfl rfl 6 (by decide) (hts _ fl_X6_102) (fun _ h9 => h9) rfl dX6_place_17 ?_
    refine lv_iload_n hx hb dX6_place_20 rfl (lv_at hl 1 rfl) ?_
    refine lv_iconst (v := (-1 : Int32)) hx hb dX6_place_21 (by decide) ?_
    refine lv_icmp_ne (tgt := 29) hx hb dX6_place_22 (by decide) (fun c39 => ?_) (fun c39 => ?_)
    · have hq := hq.1 c39
      refine lv_aload_n hx hb dX6_place_29 rfl (lv_at hl 0 rfl) ?_
      refine va_get (D := (dC, dI)) (ci := 6) (v := .ref (ac 0)) (C := RX6) (T := TX6) (N := 8) hx hb hts uwX6 hown hK hP 0 rfl rfl 0 (by decide) (hts _ fl_X6_10) (fun _ h9 => h9) rfl dX6_place_30 ?_
      refine lv_iload_n hx hb dX6_place_33 rfl (lv_at hl 1 rfl) ?_
      refine jwi (runV ⟨hx, hb, hml, hown, hts⟩ wf_X1_numberOf ml_X6_85 (c1_numberOf l dC dI cs ac _ c_row c_made c_size a1 hq) ⟨⟨rfl, rfl⟩, by decide, by decide⟩ (preW (hP.sub (ws' := wX1 cs ac c_row c_made c_size) [39, 40, 41] rfl) hK hN (hD.sub (ws' := wX1 cs ac c_row c_made c_size) [39, 40, 41] (by decide) rfl)) hK hP rfl 39 rfl rfl hl.1 rfl (Nat.le_of_ble_eq_true rfl) dX6_place_34 ⟨(Nat.le_of_ble_eq_true rfl), (Nat.le_of_ble_eq_true rfl)⟩) hP hD hS hA 39 42 rfl (fun r40 c_made_41 H locs hq hP hD hS => ?_)
      have hP : va_P (dC, dI) vwCl (wX6 cs ah sh al bx aw ac at_ rr ru tl h_size h_opened h_tal s0_row s0_made s0_size s1_row s1_made s1_size s2_row s2_made s2_size s3_row s3_made s3_size l_len l_ways l_box w_used w_kind w_size w_left w_last w_top w_wanted c_row c_made_41 c_size t_fac t_der t_rec t_rut t_ris) H := hP
      have hD : va_D A (wX6 cs ah sh al bx aw ac at_ rr ru tl h_size h_opened h_tal s0_row s0_made s0_size s1_row s1_made s1_size s2_row s2_made s2_size s3_row s3_made s3_size l_len l_ways l_box w_used w_kind w_size w_left w_last w_top w_wanted c_row c_made_41 c_size t_fac t_der t_rec t_rut t_ris) := hD
      exact B37 a1 h_size r40 w_used w_kind w_size w_left w_last w_top w_wanted c_made_41 _ _ _ hq hP hD hS (lv_sub hl [0] rfl)
    · have hq := hq.2 c39
      refine lv_iconst (v := (0 : Int32)) hx hb dX6_place_25 (by decide) ?_
      refine lv_goto (tgt := 37) hx hb dX6_place_26 (by decide) ?_
      exact B37 a1 h_size (0 : Int32) w_used w_kind w_size w_left w_last w_top w_wanted c_made _ _ _ hq hP hD hS (lv_sub hl [0] rfl)
  · have hq := hq.2 c38
    refine lv_ldc2 (v := (-2 : Int64)) hx hb hown (hts _ kl_X6_96) dX6_place_7 ?_
    exact W.lret (v := (-2 : Int64)) hx hb hr (fun t ht hW => ⟨⟨(-2 : Int64), (w_used, w_kind, w_size, w_left, w_last, w_top, w_wanted, c_made), rfl, hq, Bw_mk (by rw [ht]; exact hP) (va_K.moved hW.alike hK) hD⟩, hS.F ht⟩) hS.2.2 dX6_place_10
set_option maxHeartbeats 4000000 in
set_option maxRecDepth 100000 in
theorem c6_toRounds (l : Launch) (dC : Nat → ClassId) (dI : Nat → Nat → Nat) (cs : Nat → ClassId) (ah : Nat → Nat) (sh : Nat → Nat → Nat) (al : Nat → Nat) (bx : Nat → Nat) (aw : Nat → Nat) (ac : Nat → Nat) (at_ : Nat → Nat) (rr : Nat → Nat) (ru : Nat → Nat) (tl : va_W) (sz : Nat) (h_size : Int32) (h_opened : Int32) (h_tal : Nat → Option Nat) (s0_row : Nat → Int32) (s0_made : Nat → Int32) (s0_size : Int32) (s1_row : Nat → Int32) (s1_made : Nat → Int32) (s1_size : Int32) (s2_row : Nat → Int32) (s2_made : Nat → Int32) (s2_size : Int32) (s3_row : Nat → Int32) (s3_made : Nat → Int32) (s3_size : Int32) (l_len : Nat → Int32) (l_ways : Nat → Int64) (l_box : Nat → Nat → Int32) (w_used : Nat → Int32) (w_kind : Int32) (w_size : Int32) (w_left : Int32) (w_last : Int32) (w_top : Int32) (w_wanted : Int32) (c_row : Nat → Int32) (c_made : Nat → Int32) (c_size : Int32) (t_fac : Nat → Int64) (t_der : Nat → Int64) (t_rec : Nat → Nat → Int64) (t_rut : Nat → Nat → Int64) (t_ris : Nat → Int64) {Q : Int32 → (Nat → Int32) → (Nat → Int32) → Prop} (hq : q6_toRounds c_size c_row c_made Q) : Met l yX6_toRounds (.code yX6_toRounds cX6_toRounds 1 (some .int) :: gt) ({ frames := 3, cells := 0, slots := 0, locals := 66 } : Room) (va_Pc [.ref (ah 0)] (Pw (dC, dI) (KA cs) (wX6 cs ah sh al bx aw ac at_ rr ru tl h_size h_opened h_tal s0_row s0_made s0_size s1_row s1_made s1_size s2_row s2_made s2_size s3_row s3_made s3_size l_len l_ways l_box w_used w_kind w_size w_left w_last w_top w_wanted c_row c_made c_size t_fac t_der t_rec t_rut t_ris) sz)) (va_Qi (fun (r : Int32) (u : (Nat → Int32) × (Nat → Int32)) => Q r u.1 u.2) (Bw (dC, dI) (KA cs) (va_A (wX6 cs ah sh al bx aw ac at_ rr ru tl h_size h_opened h_tal s0_row s0_made s0_size s1_row s1_made s1_size s2_row s2_made s2_size s3_row s3_made s3_size l_len l_ways l_box w_used w_kind w_size w_left w_last w_top w_wanted c_row c_made c_size t_fac t_der t_rec t_rut t_ris) sz) (fun u : (Nat → Int32) × (Nat → Int32) => (wX6 cs ah sh al bx aw ac at_ rr ru tl h_size h_opened h_tal s0_row s0_made s0_size s1_row s1_made s1_size s2_row s2_made s2_size s3_row s3_made s3_size l_len l_ways l_box w_used w_kind w_size w_left w_last w_top w_wanted u.1 u.2 c_size t_fac t_der t_rec t_rut t_ris))) (va_A (wX6 cs ah sh al bx aw ac at_ rr ru tl h_size h_opened h_tal s0_row s0_made s0_size s1_row s1_made s1_size s2_row s2_made s2_size s3_row s3_made s3_size l_len l_ways l_box w_used w_kind w_size w_left w_last w_top w_wanted c_row c_made c_size t_fac t_der t_rec t_rut t_ris) sz)) 0 0 (va_A (wX6 cs ah sh al bx aw ac at_ rr ru tl h_size h_opened h_tal s0_row s0_made s0_size s1_row s1_made s1_size s2_row s2_made s2_size s3_row s3_made s3_size l_len l_ways l_box w_used w_kind w_size w_left w_last w_top w_wanted c_row c_made c_size t_fac t_der t_rec t_rut t_ris) sz) := by
  refine Met.ofW (cc := cX6_toRounds) (maxL := 1) (ret := (some .int)) (by decide) rfl ?_
  intro p e s m args below meth c s₁ B hml hv
  obtain ⟨rfl, hsz, hP, hK, hD0, hN⟩ := hv
  have hx := B.exec
  have hb := B.bytes
  have hr := B.returns
  have hts0 := atoms_spec (ws := (.code yX6_toRounds cX6_toRounds 1 (some .int) :: gt)) B.pre
  have hts : ∀ w ∈ gt, w.before _ s = true := fun w h => hts0 w (List.mem_cons_of_mem _ h)
  have hown : s.vm.findClass RX6 = some m.cls := findClass_of_methodNamed B.named
  have hlocks := B.notSynchronized
  subst hsz
  have hD := hD0.self (sz := s.heap.size)
  generalize hAe : va_A (wX6 cs ah sh al bx aw ac at_ rr ru tl h_size h_opened h_tal s0_row s0_made s0_size s1_row s1_made s1_size s2_row s2_made s2_size s3_row s3_made s3_size l_len l_ways l_box w_used w_kind w_size w_left w_last w_top w_wanted c_row c_made c_size t_fac t_der t_rec t_rut t_ris) s.heap.size = A at hD ⊢
  have hA : ∀ q : Nat, s.heap.size ≤ q → A q := fun q h => by rw [← hAe]; exact Or.inr h
  have hS : va_S A s.heap s.heap [] := va_S.rf
  have hl := lv_entry ([.ref (ah 0)]) (n := 1) (Nat.le_of_ble_eq_true rfl)
  rw [lg_entry_eq]
  generalize (lg_sl ([.ref (ah 0)]) ++ List.replicate (1 - (lg_sl ([.ref (ah 0)])).length) Slot.unset).toArray = ls at hl ⊢
  have hl : lv_has ls 1 [(0, .ref (ah 0))] := hl
  unfold q6_toRounds at hq
  refine lv_aload_n hx hb dX6_toRounds_0 rfl (lv_at hl 0 rfl) ?_
  refine va_get (D := (dC, dI)) (ci := 6) (v := .ref (ac 0)) (C := RX6) (T := TX6) (N := 8) hx hb hts uwX6 hown hK hP 0 rfl rfl 0 (by decide) (hts _ fl_X6_10) (fun _ h9 => h9) rfl dX6_toRounds_1 ?_
  refine jwv (runV ⟨hx, hb, hml, hown, hts⟩ wf_X1_makeRounds ml_X6_134 (c1_makeRounds l dC dI cs ac _ c_row c_made c_size  hq) ⟨⟨rfl, rfl⟩, by decide, by decide⟩ (preW (hP.sub (ws' := wX1 cs ac c_row c_made c_size) [39, 40, 41] rfl) hK hN (hD.sub (ws' := wX1 cs ac c_row c_made c_size) [39, 40, 41] (by decide) rfl)) hK hP rfl 39 rfl rfl hl.1 rfl (Nat.le_of_ble_eq_true rfl) dX6_toRounds_4 ⟨(Nat.le_of_ble_eq_true rfl), (Nat.le_of_ble_eq_true rfl)⟩) hP hD hS hA 39 42 rfl (fun  u6 H locs hq hP hD hS => ?_)
  obtain ⟨c_row_4, c_made_5⟩ := u6
  try dsimp only at hq
  have hP : va_P (dC, dI) vwCl (wX6 cs ah sh al bx aw ac at_ rr ru tl h_size h_opened h_tal s0_row s0_made s0_size s1_row s1_made s1_size s2_row s2_made s2_size s3_row s3_made s3_size l_len l_ways l_box w_used w_kind w_size w_left w_last w_top w_wanted c_row_4 c_made_5 c_size t_fac t_der t_rec t_rut t_ris) H := hP
  have hD : va_D A (wX6 cs ah sh al bx aw ac at_ rr ru tl h_size h_opened h_tal s0_row s0_made s0_size s1_row s1_made s1_size s2_row s2_made s2_size s3_row s3_made s3_size l_len l_ways l_box w_used w_kind w_size w_left w_last w_top w_wanted c_row_4 c_made_5 c_size t_fac t_der t_rec t_rut t_ris) := hD
  refine lv_iconst (v := (1 : Int32)) hx hb dX6_toRounds_7 (by decide) ?_
  exact W.iret (v := (1 : Int32)) hx hb hr (fun t ht hW => ⟨⟨(1 : Int32), (c_row_4, c_made_5), rfl, hq, Bw_mk (by rw [ht]; exact hP) (va_K.moved hW.alike hK) hD⟩, hS.F ht⟩) hS.2.2 dX6_toRounds_8
