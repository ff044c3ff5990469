set_option maxHeartbeats 4000000 in
set_option maxRecDepth 100000 in
theorem c6_isThing (l : Launch) (dC : Nat → ClassId) (dI : Nat → Nat → Nat) (cs : Nat → ClassId) (ah : Nat → Nat) (sh : Nat → Nat → Nat) (al : Nat → Nat) (bx : Nat → Nat) (aw : Nat → Nat) (ac : Nat → Nat) (at_ : Nat → Nat) (rr : Nat → Nat) (ru : Nat → Nat) (tl : va_W) (h_size : Int32) (h_opened : Int32) (h_tal : Nat → Option Nat) (s0_row : Nat → Int32) (s0_made : Nat → Int32) (s0_size : Int32) (s1_row : Nat → Int32) (s1_made : Nat → Int32) (s1_size : Int32) (s2_row : Nat → Int32) (s2_made : Nat → Int32) (s2_size : Int32) (s3_row : Nat → Int32) (s3_made : Nat → Int32) (s3_size : Int32) (l_len : Nat → Int32) (l_ways : Nat → Int64) (l_box : Nat → Nat → Int32) (w_used : Nat → Int32) (w_kind : Int32) (w_size : Int32) (w_left : Int32) (w_last : Int32) (w_top : Int32) (w_wanted : Int32) (c_row : Nat → Int32) (c_made : Nat → Int32) (c_size : Int32) (t_fac : Nat → Int64) (t_der : Nat → Int64) (t_rec : Nat → Nat → Int64) (t_rut : Nat → Nat → Int64) (t_ris : Nat → Int64) (a1 : Int32) {Q : Int32 → Prop} (hq : q6_isThing h_size a1 Q) : Met l yX6_isThing (.code yX6_isThing cX6_isThing 2 (some .boolean) :: gt) ({ frames := 0, cells := 0, slots := 0, locals := 0 } : Room) (va_Pc [.ref (ah 0), .int a1] (Pr (dC, dI) (KA cs) (wX6 cs ah sh al bx aw ac at_ rr ru tl h_size h_opened h_tal s0_row s0_made s0_size s1_row s1_made s1_size s2_row s2_made s2_size s3_row s3_made s3_size l_len l_ways l_box w_used w_kind w_size w_left w_last w_top w_wanted c_row c_made c_size t_fac t_der t_rec t_rut t_ris))) (vp_Si Q) 0 0 (fun _ => False) := by
  refine Met.ofW (cc := cX6_isThing) (maxL := 2) (ret := (some .boolean)) (by decide) rfl ?_
  intro p e s m args below meth c s₁ B hml hv
  obtain ⟨rfl, hP, hK, hN⟩ := hv
  have hx := B.exec
  have hb := B.bytes
  have hr := B.returns
  have hts0 := atoms_spec (ws := (.code yX6_isThing cX6_isThing 2 (some .boolean) :: gt)) B.pre
  have hts : ∀ w ∈ gt, w.before _ s = true := fun w h => hts0 w (List.mem_cons_of_mem _ h)
  have hown : s.vm.findClass RX6 = some m.cls := findClass_of_methodNamed B.named
  have hlocks := B.notSynchronized
  have hl := lv_entry ([.ref (ah 0), .int a1]) (n := 2) (Nat.le_of_ble_eq_true rfl)
  rw [lg_entry_eq]
  generalize (lg_sl ([.ref (ah 0), .int a1]) ++ List.replicate (2 - (lg_sl ([.ref (ah 0), .int a1])).length) Slot.unset).toArray = ls at hl ⊢
  have hl : lv_has ls 2 [(0, .ref (ah 0)), (1, .int a1)] := hl
  unfold q6_isThing at hq
  refine lv_iload_n hx hb dX6_isThing_0 rfl (lv_at hl 1 rfl) ?_
  refine lv_if_lt (tgt := 16) hx hb dX6_isThing_1 (by decide) (fun c3 => ?_) (fun c3 => ?_)
  · have hq := hq.1 c3
    refine lv_iconst (v := (0 : Int32)) hx hb dX6_isThing_16 (by decide) ?_
    exact W.zret (ty := .boolean) (v := (0 : Int32)) hx hb hr rfl (fun t ht hW => ⟨(0 : Int32), rfl, hq, ht⟩) (fun q h => absurd h List.not_mem_nil) dX6_isThing_17
  · have hq := hq.2 c3
    refine lv_iload_n hx hb dX6_isThing_4 rfl (lv_at hl 1 rfl) ?_
    refine lv_aload_n hx hb dX6_isThing_5 rfl (lv_at hl 0 rfl) ?_
    refine va_get (D := (dC, dI)) (ci := 6) (v := .int h_size) (C := RX6) (T := TX6) (N := 8) hx hb hts uwX6 hown hK hP 0 rfl rfl 6 (by decide) (hts _ fl_X6_102) (fun _ h9 => h9) rfl dX6_isThing_6 ?_
    refine lv_icmp_ge (tgt := 16) hx hb dX6_isThing_9 (by decide) (fun c4 => ?_) (fun c4 => ?_)
    · have hq := hq.1 c4
      refine lv_iconst (v := (0 : Int32)) hx hb dX6_isThing_16 (by decide) ?_
      exact W.zret (ty := .boolean) (v := (0 : Int32)) hx hb hr rfl (fun t ht hW => ⟨(0 : Int32), rfl, hq, ht⟩) (fun q h => absurd h List.not_mem_nil) dX6_isThing_17
    · have hq := hq.2 c4
      refine lv_iconst (v := (1 : Int32)) hx hb dX6_isThing_12 (by decide) ?_
      refine lv_goto (tgt := 17) hx hb dX6_isThing_13 (by decide) ?_
      exact W.zret (ty := .boolean) (v := (1 : Int32)) hx hb hr rfl (fun t ht hW => ⟨(1 : Int32), rfl, hq, ht⟩) (fun q h => absurd h List.not_mem_nil) dX6_isThing_17
set_option maxHeartbeats 4000000 in
set_option maxRecDepth 100000 in
theorem c6_startWith (l : Launch) (dC : Nat → ClassId) (dI : Nat → Nat → Nat) (cs : Nat → ClassId) (ah : Nat → Nat) (sh : Nat → Nat → Nat) (al : Nat → Nat) (bx : Nat → Nat) (aw : Nat → Nat) (ac : Nat → Nat) (at_ : Nat → Nat) (rr : Nat → Nat) (ru : Nat → Nat) (tl : va_W) (sz : Nat) (h_size : Int32) (h_opened : Int32) (h_tal : Nat → Option Nat) (s0_row : Nat → Int32) (s0_made : Nat → Int32) (s0_size : Int32) (s1_row : Nat → Int32) (s1_made : Nat → Int32) (s1_size : Int32) (s2_row : Nat → Int32) (s2_made : Nat → Int32) (s2_size : Int32) (s3_row : Nat → Int32) (s3_made : Nat → Int32) (s3_size : Int32) (l_len : Nat → Int32) (l_ways : Nat → Int64) (l_box : Nat → Nat → Int32) (w_used : Nat → Int32) (w_kind : Int32) (w_size : Int32) (w_left : Int32) (w_last : Int32) (w_top : Int32) (w_wanted : Int32) (c_row : Nat → Int32) (c_made : Nat → Int32) (c_size : Int32) (t_fac : Nat → Int64) (t_der : Nat → Int64) (t_rec : Nat → Nat → Int64) (t_rut : Nat → Nat → Int64) (t_ris : Nat → Int64) (a1 : Int32) {Q : Int32 → Int32 → (Nat → Int32) → Int32 → (Nat → Int32) → Int32 → (Nat → Int32) → Int32 → (Nat → Int32) → Int32 → (Nat → Int32) → (Nat → Int32) → Int32 → Prop} (hq : q6_startWith h_size h_opened s0_row s0_size s1_row s1_size s2_row s2_size s3_row s3_size l_len c_row c_size a1 Q) : Met l yX6_startWith (.code yX6_startWith cX6_startWith 3 none :: gt) ({ frames := 2, cells := 0, slots := 0, locals := 43 } : Room) (va_Pc [.ref (ah 0), .int a1] (Pw (dC, dI) (KA cs) (wX6 cs ah sh al bx aw ac at_ rr ru tl h_size h_opened h_tal s0_row s0_made s0_size s1_row s1_made s1_size s2_row s2_made s2_size s3_row s3_made s3_size l_len l_ways l_box w_used w_kind w_size w_left w_last w_top w_wanted c_row c_made c_size t_fac t_der t_rec t_rut t_ris) sz)) (va_Qv (fun (u : Int32 × Int32 × (Nat → Int32) × Int32 × (Nat → Int32) × Int32 × (Nat → Int32) × Int32 × (Nat → Int32) × Int32 × (Nat → Int32) × (Nat → Int32) × Int32) => Q u.1 u.2.1 u.2.2.1 u.2.2.2.1 u.2.2.2.2.1 u.2.2.2.2.2.1 u.2.2.2.2.2.2.1 u.2.2.2.2.2.2.2.1 u.2.2.2.2.2.2.2.2.1 u.2.2.2.2.2.2.2.2.2.1 u.2.2.2.2.2.2.2.2.2.2.1 u.2.2.2.2.2.2.2.2.2.2.2.1 u.2.2.2.2.2.2.2.2.2.2.2.2) (Bw (dC, dI) (KA cs) (va_A (wX6 cs ah sh al bx aw ac at_ rr ru tl h_size h_opened h_tal s0_row s0_made s0_size s1_row s1_made s1_size s2_row s2_made s2_size s3_row s3_made s3_size l_len l_ways l_box w_used w_kind w_size w_left w_last w_top w_wanted c_row c_made c_size t_fac t_der t_rec t_rut t_ris) sz) (fun u : Int32 × Int32 × (Nat → Int32) × Int32 × (Nat → Int32) × Int32 × (Nat → Int32) × Int32 × (Nat → Int32) × Int32 × (Nat → Int32) × (Nat → Int32) × Int32 => (wX6 cs ah sh al bx aw ac at_ rr ru tl u.1 u.2.1 h_tal u.2.2.1 s0_made u.2.2.2.1 u.2.2.2.2.1 s1_made u.2.2.2.2.2.1 u.2.2.2.2.2.2.1 s2_made u.2.2.2.2.2.2.2.1 u.2.2.2.2.2.2.2.2.1 s3_made u.2.2.2.2.2.2.2.2.2.1 u.2.2.2.2.2.2.2.2.2.2.1 l_ways l_box w_used w_kind w_size w_left w_last w_top w_wanted u.2.2.2.2.2.2.2.2.2.2.2.1 c_made u.2.2.2.2.2.2.2.2.2.2.2.2 t_fac t_der t_rec t_rut t_ris))) (va_A (wX6 cs ah sh al bx aw ac at_ rr ru tl h_size h_opened h_tal s0_row s0_made s0_size s1_row s1_made s1_size s2_row s2_made s2_size s3_row s3_made s3_size l_len l_ways l_box w_used w_kind w_size w_left w_last w_top w_wanted c_row c_made c_size t_fac t_der t_rec t_rut t_ris) sz)) 0 0 (va_A (wX6 cs ah sh al bx aw ac at_ rr ru tl h_size h_opened h_tal s0_row s0_made s0_size s1_row s1_made s1_size s2_row s2_made s2_size s3_row s3_made s3_size l_len l_ways l_box w_used w_kind w_size w_left w_last w_top w_wanted c_row c_made c_size t_fac t_der t_rec t_rut t_ris) sz) := by
  refine Met.ofW (cc := cX6_startWith) (maxL := 3) (ret := none) (by decide) rfl ?_
  intro p e s m args below meth c s₁ B hml hv
  obtain ⟨rfl, hsz, hP, hK, hD0, hN⟩ := hv
  have hx := B.exec
  have hb := B.bytes
  have hr := B.returns
  have hts0 := atoms_spec (ws := (.code yX6_startWith cX6_startWith 3 none :: gt)) B.pre
  have hts : ∀ w ∈ gt, w.before _ s = true := fun w h => hts0 w (List.mem_cons_of_mem _ h)
  have hown : s.vm.findClass RX6 = some m.cls := findClass_of_methodNamed B.named
  have hlocks := B.notSynchronized
  subst hsz
  have hD := hD0.self (sz := s.heap.size)
  generalize hAe : va_A (wX6 cs ah sh al bx aw ac at_ rr ru tl h_size h_opened h_tal s0_row s0_made s0_size s1_row s1_made s1_size s2_row s2_made s2_size s3_row s3_made s3_size l_len l_ways l_box w_used w_kind w_size w_left w_last w_top w_wanted c_row c_made c_size t_fac t_der t_rec t_rut t_ris) s.heap.size = A at hD ⊢
  have hA : ∀ q : Nat, s.heap.size ≤ q → A q := fun q h => by rw [← hAe]; exact Or.inr h
  have hS : va_S A s.heap s.heap [] := va_S.rf
  have hl := lv_entry ([.ref (ah 0), .int a1]) (n := 3) (Nat.le_of_ble_eq_true rfl)
  rw [lg_entry_eq]
  generalize (lg_sl ([.ref (ah 0), .int a1]) ++ List.replicate (3 - (lg_sl ([.ref (ah 0), .int a1])).length) Slot.unset).toArray = ls at hl ⊢
  have hl : lv_has ls 3 [(0, .ref (ah 0)), (1, .int a1)] := hl
  have B45 : ∀ (h_size : Int32) (h_opened : Int32) (s0_row : Nat → Int32) (s0_size : Int32) (s1_row : Nat → Int32) (s1_size : Int32) (s2_row : Nat → Int32) (s2_size : Int32) (s3_row : Nat → Int32) (s3_size : Int32) (l_len : Nat → Int32) (c_row : Nat → Int32) (c_size : Int32) (H : Heap) (locs : List Loc) (ls : Array Slot), q6_startWith_45 Q h_size h_opened s0_row s0_size s1_row s1_size s2_row s2_size s3_row s3_size l_len c_row c_size → va_P (dC, dI) vwCl (wX6 cs ah sh al bx aw ac at_ rr ru tl h_size h_opened h_tal s0_row s0_made s0_size s1_row s1_made s1_size s2_row s2_made s2_size s3_row s3_made s3_size l_len l_ways l_box w_used w_kind w_size w_left w_last w_top w_wanted c_row c_made c_size t_fac t_der t_rec t_rut t_ris) H → va_D A (wX6 cs ah sh al bx aw ac at_ rr ru tl h_size h_opened h_tal s0_row s0_made s0_size s1_row s1_made s1_size s2_row s2_made s2_size s3_row s3_made s3_size l_len l_ways l_box w_used w_kind w_size w_left w_last w_top w_wanted c_row c_made c_size t_fac t_der t_rec t_rut t_ris) → va_S A s.heap H locs → lv_has ls 3 [(0, .ref (ah 0))] → W p l e ({ frames := 2, cells := 0, slots := 0, locals := 43 } : Room) s m ([.ref (ah 0), .int a1] : List Value).toArray below meth c H locs 0 0 (MQ below (va_Qv (fun (u : Int32 × Int32 × (Nat → Int32) × Int32 × (Nat → Int32) × Int32 × (Nat → Int32) × Int32 × (Nat → Int32) × Int32 × (Nat → Int32) × (Nat → Int32) × Int32) => Q u.1 u.2.1 u.2.2.1 u.2.2.2.1 u.2.2.2.2.1 u.2.2.2.2.2.1 u.2.2.2.2.2.2.1 u.2.2.2.2.2.2.2.1 u.2.2.2.2.2.2.2.2.1 u.2.2.2.2.2.2.2.2.2.1 u.2.2.2.2.2.2.2.2.2.2.1 u.2.2.2.2.2.2.2.2.2.2.2.1 u.2.2.2.2.2.2.2.2.2.2.2.2) (Bw (dC, dI) (KA cs) A (fun u : Int32 × Int32 × (Nat → Int32) × Int32 × (Nat → Int32) × Int32 × (Nat → Int32) × Int32 × (Nat → Int32) × Int32 × (Nat → Int32) × (Nat → Int32) × Int32 => (wX6 cs ah sh al bx aw ac at_ rr ru tl u.1 u.2.1 h_tal u.2.2.1 s0_made u.2.2.2.1 u.2.2.2.2.1 s1_made u.2.2.2.2.2.1 u.2.2.2.2.2.2.1 s2_made u.2.2.2.2.2.2.2.1 u.2.2.2.2.2.2.2.2.1 s3_made u.2.2.2.2.2.2.2.2.2.1 u.2.2.2.2.2.2.2.2.2.2.1 l_ways l_box w_used w_kind w_size w_left w_last w_top w_wanted u.2.2.2.2.2.2.2.2.2.2.2.1 c_made u.2.2.2.2.2.2.2.2.2.2.2.2 t_fac t_der t_rec t_rut t_ris))) A) ([.ref (ah 0), .int a1] : List Value).toArray s 0 0 A) (F0 m 45 ls []) := by
    intro h_size h_opened s0_row s0_size s1_row s1_size s2_row s2_size s3_row s3_size l_len c_row c_size H locs ls hq hP hD hS hl
    unfold q6_startWith_45 at hq
    refine lv_aload_n hx hb dX6_startWith_45 rfl (lv_at hl 0 rfl) ?_
    refine va_get (D := (dC, dI)) (ci := 6) (v := .ref (al 0)) (C := RX6) (T := TX6) (N := 8) hx hb hts uwX6 hown hK hP 0 rfl rfl 2 (by decide) (hts _ fl_X6_23) (fun _ h9 => h9) rfl dX6_startWith_46 ?_
    refine jwv (runV ⟨hx, hb, hml, hown, hts⟩ wf_X0_emptyAll ml_X6_183 (c0_emptyAll l dC dI cs al bx _ l_len l_ways l_box  hq) ⟨⟨rfl, rfl⟩, by decide, by decide⟩ (preW (hP.sub (ws' := wX0 cs al bx l_len l_ways l_box) [15, 16, 17, 18, 19, 20, 21, 22, 23, 24, 25, 26, 27, 28, 29, 30, 31, 32, 33, 34, 35, 36] rfl) hK hN (hD.sub (ws' := wX0 cs al bx l_len l_ways l_box) [15, 16, 17, 18, 19, 20, 21, 22, 23, 24, 25, 26, 27, 28, 29, 30, 31, 32, 33, 34, 35, 36] (by decide) rfl)) hK hP rfl 15 rfl rfl hl.1 rfl (Nat.le_of_ble_eq_true rfl) dX6_startWith_49 ⟨(Nat.le_of_ble_eq_true rfl), (Nat.le_of_ble_eq_true rfl)⟩) hP hD hS hA 15 37 rfl (fun  l_len_21 H locs hq hP hD hS => ?_)
    have hP : va_P (dC, dI) vwCl (wX6 cs ah sh al bx aw ac at_ rr ru tl h_size h_opened h_tal s0_row s0_made s0_size s1_row s1_made s1_size s2_row s2_made s2_size s3_row s3_made s3_size l_len_21 l_ways l_box w_used w_kind w_size w_left w_last w_top w_wanted c_row c_made c_size t_fac t_der t_rec t_rut t_ris) H := hP
    have hD : va_D A (wX6 cs ah sh al bx aw ac at_ rr ru tl h_size h_opened h_tal s0_row s0_made s0_size s1_row s1_made s1_size s2_row s2_made s2_size s3_row s3_made s3_size l_len_21 l_ways l_box w_used w_kind w_size w_left w_last w_top w_wanted c_row c_made c_size t_fac t_der t_rec t_rut t_ris) := hD
    exact W.vret hx hb hr (fun t ht hW => ⟨⟨(h_size, h_opened, s0_row, s0_size, s1_row, s1_size, s2_row, s2_size, s3_row, s3_size, l_len_21, c_row, c_size), rfl, hq, Bw_mk (by rw [ht]; exact hP) (va_K.moved hW.alike hK) hD⟩, hS.F ht⟩) hS.2.2 dX6_startWith_52
  have B24 : ∀ (k24 : Nat) (x1 : Int32) (x2 : Int32) (h_size : Int32) (h_opened : Int32) (s0_row : Nat → Int32) (s0_size : Int32) (s1_row : Nat → Int32) (s1_size : Int32) (s2_row : Nat → Int32) (s2_size : Int32) (s3_row : Nat → Int32) (s3_size : Int32) (l_len : Nat → Int32) (c_row : Nat → Int32) (c_size : Int32) (H : Heap) (locs : List Loc) (ls : Array Slot), q6_startWith_24 Q k24 x1 x2 h_size h_opened s0_row s0_size s1_row s1_size s2_row s2_size s3_row s3_size l_len c_row c_size → va_P (dC, dI) vwCl (wX6 cs ah sh al bx aw ac at_ rr ru tl h_size h_opened h_tal s0_row s0_made s0_size s1_row s1_made s1_size s2_row s2_made s2_size s3_row s3_made s3_size l_len l_ways l_box w_used w_kind w_size w_left w_last w_top w_wanted c_row c_made c_size t_fac t_der t_rec t_rut t_ris) H → va_D A (wX6 cs ah sh al bx aw ac at_ rr ru tl h_size h_opened h_tal s0_row s0_made s0_size s1_row s1_made s1_size s2_row s2_made s2_size s3_row s3_made s3_size l_len l_ways l_box w_used w_kind w_size w_left w_last w_top w_wanted c_row c_made c_size t_fac t_der t_rec t_rut t_ris) → va_S A s.heap H locs → lv_has ls 3 [(0, .ref (ah 0)), (1, .int x1), (2, .int x2)] → W p l e ({ frames := 2, cells := 0, slots := 0, locals := 43 } : Room) s m ([.ref (ah 0), .int a1] : List Value).toArray below meth c H locs 0 0 (MQ below (va_Qv (fun (u : Int32 × Int32 × (Nat → Int32) × Int32 × (Nat → Int32) × Int32 × (Nat → Int32) × Int32 × (Nat → Int32) × Int32 × (Nat → Int32) × (Nat → Int32) × Int32) => Q u.1 u.2.1 u.2.2.1 u.2.2.2.1 u.2.2.2.2.1 u.2.2.2.2.2.1 u.2.2.2.2.2.2.1 u.2.2.2.2.2.2.2.1 u.2.2.2.2.2.2.2.2.1 u.2.2.2.2.2.2.2.2.2.1 u.2.2.2.2.2.2.2.2.2.2.1 u.2.2.2.2.2.2.2.2.2.2.2.1 u.2.2.2.2.2.2.2.2.2.2.2.2) (Bw (dC, dI) (KA cs) A (fun u : Int32 × Int32 × (Nat → Int32) × Int32 × (Nat → Int32) × Int32 × (Nat → Int32) × Int32 × (Nat → Int32) × Int32 × (Nat → Int32) × (Nat → Int32) × Int32 => (wX6 cs ah sh al bx aw ac at_ rr ru tl u.1 u.2.1 h_tal u.2.2.1 s0_made u.2.2.2.1 u.2.2.2.2.1 s1_made u.2.2.2.2.2.1 u.2.2.2.2.2.2.1 s2_made u.2.2.2.2.2.2.2.1 u.2.2.2.2.2.2.2.2.1 s3_made u.2.2.2.2.2.2.2.2.2.1 u.2.2.2.2.2.2.2.2.2.2.1 l_ways l_box w_used w_kind w_size w_left w_last w_top w_wanted u.2.2.2.2.2.2.2.2.2.2.2.1 c_made u.2.2.2.2.2.2.2.2.2.2.2.2 t_fac t_der t_rec t_rut t_ris))) A) ([.ref (ah 0), .int a1] : List Value).toArray s 0 0 A) (F0 m 24 ls []) := by
    intro k24
    induction k24 with
    | zero => intro x1 x2 h_size h_opened s0_row s0_size s1_row s1_size s2_row s2_size s3_row s3_size l_len c_row c_size H locs ls hq; exact False.elim hq
    | succ k24 ih24 =>
      intro x1 x2 h_size h_opened s0_row s0_size s1_row s1_size s2_row s2_size s3_row s3_size l_len c_row c_size H locs ls hq hP hD hS hl
      unfold q6_startWith_24 at hq
      refine lv_iload_n hx hb dX6_startWith_24 rfl (lv_at hl 2 rfl) ?_
      refine lv_iconst (v := (4 : Int32)) hx hb dX6_startWith_25 (by decide) ?_
      refine lv_icmp_ge (tgt := 45) hx hb dX6_startWith_26 (by decide) (fun c23 => ?_) (fun c23 => ?_)
      · have hq := hq.1 c23
        exact B45 h_size h_opened s0_row s0_size s1_row s1_size s2_row s2_size s3_row s3_size l_len c_row c_size _ _ _ hq hP hD hS (lv_sub hl [0] rfl)
      · have hq := hq.2 c23
        refine lv_aload_n hx hb dX6_startWith_29 rfl (lv_at hl 0 rfl) ?_
        refine va_get (D := (dC, dI)) (ci := 6) (v := .ref (ah 1)) (C := RX6) (T := TX6) (N := 8) hx hb hts uwX6 hown hK hP 0 rfl rfl 1 (by decide) (hts _ fl_X6_16) (fun _ h9 => h9) rfl dX6_startWith_30 ?_
        refine lv_iload_n hx hb dX6_startWith_33 rfl (lv_at hl 2 rfl) ?_
        obtain ⟨i24, hq⟩ := hq
        refine va_aldq hx hb hK hP 1 3 rfl rfl i24 dX6_startWith_34 ?_
        rcases vp_in4 i24 with e25 | e25 | e25 | e25
        · have hq := hq.1 e25
          refine W.eq (g2 := F0 m 35 ls (.ref (sh 0 0) :: [])) (by rw [e25]; rfl) ?_
          refine lv_iload_n hx hb dX6_startWith_35 rfl (lv_at hl 1 rfl) ?_
          refine jwv (runV ⟨hx, hb, hml, hown, hts⟩ wf_X1_startWith ml_X6_182 (c1_startWith l dC dI cs (sh 0) _ s0_row s0_made s0_size x1 hq) ⟨⟨rfl, rfl⟩, by decide, by decide⟩ (preW (hP.sub (ws' := wX1 cs (sh 0) s0_row s0_made s0_size) [3, 4, 5] rfl) hK hN (hD.sub (ws' := wX1 cs (sh 0) s0_row s0_made s0_size) [3, 4, 5] (by decide) rfl)) hK hP rfl 3 rfl rfl hl.1 rfl (Nat.le_of_ble_eq_true rfl) dX6_startWith_36 ⟨(Nat.le_of_ble_eq_true rfl), (Nat.le_of_ble_eq_true rfl)⟩) hP hD hS hA 3 6 rfl (fun  u28 H locs hq hP hD hS => ?_)
          obtain ⟨s0_row_26, s0_size_27⟩ := u28
          try dsimp only at hq
          have hP : va_P (dC, dI) vwCl (wX6 cs ah sh al bx aw ac at_ rr ru tl h_size h_opened h_tal s0_row_26 s0_made s0_size_27 s1_row s1_made s1_size s2_row s2_made s2_size s3_row s3_made s3_size l_len l_ways l_box w_used w_kind w_size w_left w_last w_top w_wanted c_row c_made c_size t_fac t_der t_rec t_rut t_ris) H := hP
          have hD : va_D A (wX6 cs ah sh al bx aw ac at_ rr ru tl h_size h_opened h_tal s0_row_26 s0_made s0_size_27 s1_row s1_made s1_size s2_row s2_made s2_size s3_row s3_made s3_size l_len l_ways l_box w_used w_kind w_size w_left w_last w_top w_wanted c_row c_made c_size t_fac t_der t_rec t_rut t_ris) := hD
          refine lv_iinc (v := (x2 + (1 : Int32))) (lv' := [(2, .int (x2 + (1 : Int32))), (0, .ref (ah 0)), (1, .int x1)]) hx hb dX6_startWith_39 hl (k := 2) rfl (by rfl) (by decide) rfl (fun ls hl => ?_)
          refine lv_goto (tgt := 24) hx hb dX6_startWith_42 (by decide) ?_
          exact ih24 x1 (x2 + (1 : Int32)) h_size h_opened s0_row_26 s0_size_27 s1_row s1_size s2_row s2_size s3_row s3_size l_len c_row c_size _ _ _ hq hP hD hS (lv_sub hl [1, 2, 0] rfl)
        · have hq := hq.2.1 e25
          refine W.eq (g2 := F0 m 35 ls (.ref (sh 1 0) :: [])) (by rw [e25]; rfl) ?_
          refine lv_iload_n hx hb dX6_startWith_35 rfl (lv_at hl 1 rfl) ?_
          refine jwv (runV ⟨hx, hb, hml, hown, hts⟩ wf_X1_startWith ml_X6_182 (c1_startWith l dC dI cs (sh 1) _ s1_row s1_made s1_size x1 hq) ⟨⟨rfl, rfl⟩, by decide, by decide⟩ (preW (hP.sub (ws' := wX1 cs (sh 1) s1_row s1_made s1_size) [6, 7, 8] rfl) hK hN (hD.sub (ws' := wX1 cs (sh 1) s1_row s1_made s1_size) [6, 7, 8] (by decide) rfl)) hK hP rfl 6 rfl rfl hl.1 rfl (Nat.le_of_ble_eq_true rfl) dX6_startWith_36 ⟨(Nat.le_of_ble_eq_true rfl), (Nat.le_of_ble_eq_true rfl)⟩) hP hD hS hA 6 9 rfl (fun  u31 H locs hq hP hD hS => ?_)
          obtain ⟨s1_row_29, s1_size_30⟩ := u31
          try dsimp only at hq
          have hP : va_P (dC, dI) vwCl (wX6 cs ah sh al bx aw ac at_ rr ru tl h_size h_opened h_tal s0_row s0_made s0_size s1_row_29 s1_made s1_size_30 s2_row s2_made s2_size s3_row s3_made s3_size l_len l_ways l_box w_used w_kind w_size w_left w_last w_top w_wanted c_row c_made c_size t_fac t_der t_rec t_rut t_ris) H := hP
          have hD : va_D A (wX6 cs ah sh al bx aw ac at_ rr ru tl h_size h_opened h_tal s0_row s0_made s0_size s1_row_29 s1_made s1_size_30 s2_row s2_made s2_size s3_row s3_made s3_size l_len l_ways l_box w_used w_kind w_size w_left w_last w_top w_wanted c_row c_made c_size t_fac t_der t_rec t_rut t_ris) := hD
          refine lv_iinc (v := (x2 + (1 : Int32))) (lv' := [(2, .int (x2 + (1 : Int32))), (0, .ref (ah 0)), (1, .int x1)]) hx hb dX6_startWith_39 hl (k := 2) rfl (by rfl) (by decide) rfl (fun ls hl => ?_)
          refine lv_goto (tgt := 24) hx hb dX6_startWith_42 (by decide) ?_
          exact ih24 x1 (x2 + (1 : Int32)) h_size h_opened s0_row s0_size s1_row_29 s1_size_30 s2_row s2_size s3_row s3_size l_len c_row c_size _ _ _ hq hP hD hS (lv_sub hl [1, 2, 0] rfl)
        · have hq := hq.2.2.1 e25
          refine W.eq (g2 := F0 m 35 ls (.ref (sh 2 0) :: [])) (by rw [e25]; rfl) ?_
          refine lv_iload_n hx hb dX6_startWith_35 rfl (lv_at hl 1 rfl) ?_
          refine jwv (runV ⟨hx, hb, hml, hown, hts⟩ wf_X1_startWith ml_X6_182 (c1_startWith l dC dI cs (sh 2) _ s2_row s2_made s2_size x1 hq) ⟨⟨rfl, rfl⟩, by decide, by decide⟩ (preW (hP.sub (ws' := wX1 cs (sh 2) s2_row s2_made s2_size) [9, 10, 11] rfl) hK hN (hD.sub (ws' := wX1 cs (sh 2) s2_row s2_made s2_size) [9, 10, 11] (by decide) rfl)) hK hP rfl 9 rfl rfl hl.1 rfl (Nat.le_of_ble_eq_true rfl) dX6_startWith_36 ⟨(Nat.le_of_ble_eq_true rfl), (Nat.le_of_ble_eq_true rfl)⟩) hP hD hS hA 9 12 rfl (fun  u34 H locs hq hP hD hS => ?_)
          obtain ⟨s2_row_32, s2_size_33⟩ := u34
          try dsimp only at hq
          have hP : va_P (dC, dI) vwCl (wX6 cs ah sh al bx aw ac at_ rr ru tl h_size h_opened h_tal s0_row s0_made s0_size s1_row s1_made s1_size s2_row_32 s2_made s2_size_33 s3_row s3_made s3_size l_len l_ways l_box w_used w_kind w_size w_left w_last w_top w_wanted c_row c_made c_size t_fac t_der t_rec t_rut t_ris) H := hP
          have hD : va_D A (wX6 cs ah sh al bx aw ac at_ rr ru tl h_size h_opened h_tal s0_row s0_made s0_size s1_row s1_made s1_size s2_row_32 s2_made s2_size_33 s3_row s3_made s3_size l_len l_ways l_box w_used w_kind w_size w_left w_last w_top w_wanted c_row c_made c_size t_fac t_der t_rec t_rut t_ris) := hD
          refine lv_iinc (v := (x2 + (1 : Int32))) (lv' := [(2, .int (x2 + (1 : Int32))), (0, .ref (ah 0)), (1, .int x1)]) hx hb dX6_startWith_39 hl (k := 2) rfl (by rfl) (by decide) rfl (fun ls hl => ?_)
          refine lv_goto (tgt := 24) hx hb dX6_startWith_42 (by decide) ?_
          exact ih24 x1 (x2 + (1 : Int32)) h_size h_opened s0_row s0_size s1_row s1_size s2_row_32 s2_size_33 s3_row s3_size l_len c_row c_size _ _ _ hq hP hD hS (lv_sub hl [1, 2, 0] rfl)
        · have hq := hq.2.2.2 e25
          refine W.eq (g2 := F0 m 35 ls (.ref (sh 3 0) :: [])) (by rw [e25]; rfl) ?_
          refine lv_iload_n hx hb dX6_startWith_35 rfl (lv_at hl 1 rfl) ?_
          refine jwv (runV ⟨hx, hb, hml, hown, hts⟩ wf_X1_startWith ml_X6_182 (c1_startWith l dC dI cs (sh 3) _ s3_row s3_made s3_size x1 hq) ⟨⟨rfl, rfl⟩, by decide, by decide⟩ (preW (hP.sub (ws' := wX1 cs (sh 3) s3_row s3_made s3_size) [12, 13, 14] rfl) hK hN (hD.sub (ws' := wX1 cs (sh 3) s3_row s3_made s3_size) [12, 13, 14] (by decide) rfl)) hK hP rfl 12 rfl rfl hl.1 rfl (Nat.le_of_ble_eq_true rfl) dX6_startWith_36 ⟨(Nat.le_of_ble_eq_true rfl), (Nat.le_of_ble_eq_true rfl)⟩) hP hD hS hA 12 15 rfl (fun  u37 H locs hq hP hD hS => ?_)
          obtain ⟨s3_row_35, s3_size_36⟩ := u37
          try dsimp only at hq
          have hP : va_P (dC, dI) vwCl (wX6 cs ah sh al bx aw ac at_ rr ru tl h_size h_opened h_tal s0_row s0_made s0_size s1_row s1_made s1_size s2_row s2_made s2_size s3_row_35 s3_made s3_size_36 l_len l_ways l_box w_used w_kind w_size w_left w_last w_top w_wanted c_row c_made c_size t_fac t_der t_rec t_rut t_ris) H := hP
          have hD : va_D A (wX6 cs ah sh al bx aw ac at_ rr ru tl h_size h_opened h_tal s0_row s0_made s0_size s1_row s1_made s1_size s2_row s2_made s2_size s3_row_35 s3_made s3_size_36 l_len l_ways l_box w_used w_kind w_size w_left w_last w_top w_wanted c_row c_made c_size t_fac t_der t_rec t_rut t_ris) := hD
          refine lv_iinc (v := (x2 + (1 : Int32))) (lv' := [(2, .int (x2 + (1 : Int32))), (0, .ref (ah 0)), (1, .int x1)]) hx hb dX6_startWith_39 hl (k := 2) rfl (by rfl) (by decide) rfl (fun ls hl => ?_)
          refine lv_goto (tgt := 24) hx hb dX6_startWith_42 (by decide) ?_
          exact ih24 x1 (x2 + (1 : Int32)) h_size h_opened s0_row s0_size s1_row s1_size s2_row s2_size s3_row_35 s3_size_36 l_len c_row c_size _ _ _ hq hP hD hS (lv_sub hl [1, 2, 0] rfl)
  unfold q6_startWith at hq
  refine lv_aload_n hx hb dX6_startWith_0 rfl (lv_at hl 0 rfl) ?_
  refine lv_iload_n hx hb dX6_startWith_1 rfl (lv_at hl 1 rfl) ?_
  refine va_put (D := (dC, dI)) (ci := 6) (v := .int a1) (ty := .int) (C := RX6) (T := TX6) (N := 8) hx hb hts uwX6 tyX6 tyX6_ok nmX6 hown hK hP hD hS 0 rfl rfl 6 (by decide) (hts _ fl_X6_102) (fun _ h9 => h9) rfl (by decide +kernel) rfl rfl (Nat.le_of_ble_eq_true rfl) dX6_startWith_2 (fun H locs hP hD hS => ?_)
  have hP : va_P (dC, dI) vwCl (wX6 cs ah sh al bx aw ac at_ rr ru tl a1 h_opened h_tal s0_row s0_made s0_size s1_row s1_made s1_size s2_row s2_made s2_size s3_row s3_made s3_size l_len l_ways l_box w_used w_kind w_size w_left w_last w_top w_wanted c_row c_made c_size t_fac t_der t_rec t_rut t_ris) H := hP
  have hD : va_D A (wX6 cs ah sh al bx aw ac at_ rr ru tl a1 h_opened h_tal s0_row s0_made s0_size s1_row s1_made s1_size s2_row s2_made s2_size s3_row s3_made s3_size l_len l_ways l_box w_used w_kind w_size w_left w_last w_top w_wanted c_row c_made c_size t_fac t_der t_rec t_rut t_ris) := hD
  refine lv_aload_n hx hb dX6_startWith_5 rfl (lv_at hl 0 rfl) ?_
  refine lv_iconst (v := (2 : Int32)) hx hb dX6_startWith_6 (by decide) ?_
  refine lv_iload_n hx hb dX6_startWith_7 rfl (lv_at hl 1 rfl) ?_
  refine va_mmin hx hb (hml.trans hl.1.symm) hown (hts _ ml_X6_177) (hts _ sm_J9_min) (hts _ in_J9) (hts _ cw_J9_min) (Nat.le_of_ble_eq_true rfl) (Nat.le_of_ble_eq_true rfl) (Nat.le_of_ble_eq_true rfl) (Nat.le_of_ble_eq_true rfl) dX6_startWith_8 ?_
  refine va_put (D := (dC, dI)) (ci := 6) (v := .int (if a1 < (2 : Int32) then a1 else (2 : Int32))) (ty := .int) (C := RX6) (T := TX6) (N := 8) hx hb hts uwX6 tyX6 tyX6_ok nmX6 hown hK hP hD hS 0 rfl rfl 7 (by decide) (hts _ fl_X6_140) (fun _ h9 => h9) rfl (by decide +kernel) rfl rfl (Nat.le_of_ble_eq_true rfl) dX6_startWith_11 (fun H locs hP hD hS => ?_)
  have hP : va_P (dC, dI) vwCl (wX6 cs ah sh al bx aw ac at_ rr ru tl a1 (if a1 < (2 : Int32) then a1 else (2 : Int32)) h_tal s0_row s0_made s0_size s1_row s1_made s1_size s2_row s2_made s2_size s3_row s3_made s3_size l_len l_ways l_box w_used w_kind w_size w_left w_last w_top w_wanted c_row c_made c_size t_fac t_der t_rec t_rut t_ris) H := hP
  have hD : va_D A (wX6 cs ah sh al bx aw ac at_ rr ru tl a1 (if a1 < (2 : Int32) then a1 else (2 : Int32)) h_tal s0_row s0_made s0_size s1_row s1_made s1_size s2_row s2_made s2_size s3_row s3_made s3_size l_len l_ways l_box w_used w_kind w_size w_left w_last w_top w_wanted c_row c_made c_size t_fac t_der t_rec t_rut t_ris) := hD
  refine lv_aload_n hx hb dX6_startWith_14 rfl (lv_at hl 0 rfl) ?_
  refine va_get (D := (dC, dI)) (ci := 6) (v := .ref (ac 0)) (C := RX6) (T := TX6) (N := 8) hx hb hts uwX6 hown hK hP 0 rfl rfl 0 (by decide) (hts _ fl_X6_10) (fun _ h9 => h9) rfl dX6_startWith_15 ?_
  refine lv_iload_n hx hb dX6_startWith_18 rfl (lv_at hl 1 rfl) ?_
  refine jwv (runV ⟨hx, hb, hml, hown, hts⟩ wf_X1_startWith ml_X6_182 (c1_startWith l dC dI cs ac _ c_row c_made c_size a1 hq) ⟨⟨rfl, rfl⟩, by decide, by decide⟩ (preW (hP.sub (ws' := wX1 cs ac c_row c_made c_size) [39, 40, 41] rfl) hK hN (hD.sub (ws' := wX1 cs ac c_row c_made c_size) [39, 40, 41] (by decide) rfl)) hK hP rfl 39 rfl rfl hl.1 rfl (Nat.le_of_ble_eq_true rfl) dX6_startWith_19 ⟨(Nat.le_of_ble_eq_true rfl), (Nat.le_of_ble_eq_true rfl)⟩) hP hD hS hA 39 42 rfl (fun  u40 H locs hq hP hD hS => ?_)
  obtain ⟨c_row_38, c_size_39⟩ := u40
  try dsimp only at hq
  have hP : va_P (dC, dI) vwCl (wX6 cs ah sh al bx aw ac at_ rr ru tl a1 (if a1 < (2 : Int32) then a1 else (2 : Int32)) h_tal s0_row s0_made s0_size s1_row s1_made s1_size s2_row s2_made s2_size s3_row s3_made s3_size l_len l_ways l_box w_used w_kind w_size w_left w_last w_top w_wanted c_row_38 c_made c_size_39 t_fac t_der t_rec t_rut t_ris) H := hP
  have hD : va_D A (wX6 cs ah sh al bx aw ac at_ rr ru tl a1 (if a1 < (2 : Int32) then a1 else (2 : Int32)) h_tal s0_row s0_made s0_size s1_row s1_made s1_size s2_row s2_made s2_size s3_row s3_made s3_size l_len l_ways l_box w_used w_kind w_size w_left w_last w_top w_wanted c_row_38 c_made c_size_39 t_fac t_der t_rec t_rut t_ris) := hD
  refine lv_iconst (v := (0 : Int32)) hx hb dX6_startWith_22 (by decide) ?_
  refine lv_istore_n (lv' := [(2, .int (0 : Int32)), (0, .ref (ah 0)), (1, .int a1)]) hx hb dX6_startWith_23 rfl hl (by decide) rfl (fun ls hl => ?_)
  obtain ⟨kf, hq⟩ := hq
  exact B24 kf a1 (0 : Int32) a1 (if a1 < (2 : Int32) then a1 else (2 : Int32)) s0_row s0_size s1_row s1_size s2_row s2_size s3_row s3_size l_len c_row_38 c_size_39 _ _ _ hq hP hD hS (lv_sub hl [1, 2, 0] rfl)
set_option maxHeartbeats 4000000 in
set_option maxRecDepth 100000 in
theorem c6_things (l : Launch) (dC : Nat → ClassId) (dI : Nat → Nat → Nat) (cs : Nat → ClassId) (ah : Nat → Nat) (sh : Nat → Nat → Nat) (al : Nat → Nat) (bx : Nat → Nat) (aw : Nat → Nat) (ac : Nat → Nat) (at_ : Nat → Nat) (rr : Nat → Nat) (ru : Nat → Nat) (tl : va_W) (sz : Nat) (h_size : Int32) (h_opened : Int32) (h_tal : Nat → Option Nat) (s0_row : Nat → Int32) (s0_made : Nat → Int32) (s0_size : Int32) (s1_row : Nat → Int32) (s1_made : Nat → Int32) (s1_size : Int32) (s2_row : Nat → Int32) (s2_made : Nat → Int32) (s2_size : Int32) (s3_row : Nat → Int32) (s3_made : Nat → Int32) (s3_size : Int32) (l_len : Nat → Int32) (l_ways : Nat → Int64) (l_box : Nat → Nat → Int32) (w_used : Nat → Int32) (w_kind : Int32) (w_size : Int32) (w_left : Int32) (w_last : Int32) (w_top : Int32) (w_wanted : Int32) (c_row : Nat → Int32) (c_made : Nat → Int32) (c_size : Int32) (t_fac : Nat → Int64) (t_der : Nat → Int64) (t_rec : Nat → Nat → Int64) (t_rut : Nat → Nat → Int64) (t_ris : Nat → Int64) (a1 : Int32) {Q : Int32 → Int32 → Int32 → (Nat → Int32) → Int32 → (Nat → Int32) → Int32 → (Nat → Int32) → Int32 → (Nat → Int32) → Int32 → (Nat → Int32) → (Nat → Int32) → Int32 → Prop} (hq : q6_things h_size h_opened s0_row s0_size s1_row s1_size s2_row s2_size s3_row s3_size l_len c_row c_size a1 Q) : Met l yX6_things (.code yX6_things cX6_things 2 (some .int) :: gt) ({ frames := 3, cells := 0, slots := 0, locals := 65 } : Room) (va_Pc [.ref (ah 0), .int a1] (Pw (dC, dI) (KA cs) (wX6 cs ah sh al bx aw ac at_ rr ru tl h_size h_opened h_tal s0_row s0_made s0_size s1_row s1_made s1_size s2_row s2_made s2_size s3_row s3_made s3_size l_len l_ways l_box w_used w_kind w_size w_left w_last w_top w_wanted c_row c_made c_size t_fac t_der t_rec t_rut t_ris) sz)) (va_Qi (fun (r : Int32) (u : Int32 × Int32 × (Nat → Int32) × Int32 × (Nat → Int32) × Int32 × (Nat → Int32) × Int32 × (Nat → Int32) × Int32 × (Nat → Int32) × (Nat → Int32) × Int32) => Q r u.1 u.2.1 u.2.2.1 u.2.2.2.1 u.2.2.2.2.1 u.2.2.2.2.2.1 u.2.2.2.2.2.2.1 u.2.2.2.2.2.2.2.1 u.2.2.2.2.2.2.2.2.1 u.2.2.2.2.2.2.2.2.2.1 u.2.2.2.2.2.2.2.2.2.2.1 u.2.2.2.2.2.2.2.2.2.2.2.1 u.2.2.2.2.2.2.2.2.2.2.2.2) (Bw (dC, dI) (KA cs) (va_A (wX6 cs ah sh al bx aw ac at_ rr ru tl h_size h_opened h_tal s0_row s0_made s0_size s1_row s1_made s1_size s2_row s2_made s2_size s3_row s3_made s3_size l_len l_ways l_box w_used w_kind w_size w_left w_last w_top w_wanted c_row c_made c_size t_fac t_der t_rec t_rut t_ris) sz) (fun u : Int32 × Int32 × (Nat → Int32) × Int32 × (Nat → Int32) × Int32 × (Nat → Int32) × Int32 × (Nat → Int32) × Int32 × (Nat → Int32) × (Nat → Int32) × Int32 => (wX6 cs ah sh al bx aw ac at_ rr ru tl u.1 u.2.1 h_tal u.2.2.1 s0_made u.2.2.2.1 u.2.2.2.2.1 s1_made u.2.2.2.2.2.1 u.2.2.2.2.2.2.1 s2_made u.2.2.2.2.2.2.2.1 u.2.2.2.2.2.2.2.2.1 s3_made u.2.2.2.2.2.2.2.2.2.1 u.2.2.2.2.2.2.2.2.2.2.1 l_ways l_box w_used w_kind w_size w_left w_last w_top w_wanted u.2.2.2.2.2.2.2.2.2.2.2.1 c_made u.2.2.2.2.2.2.2.2.2.2.2.2 t_fac t_der t_rec t_rut t_ris))) (va_A (wX6 cs ah sh al bx aw ac at_ rr ru tl h_size h_opened h_tal s0_row s0_made s0_size s1_row s1_made s1_size s2_row s2_made s2_size s3_row s3_made s3_size l_len l_ways l_box w_used w_kind w_size w_left w_last w_top w_wanted c_row c_made c_size t_fac t_der t_rec t_rut t_ris) sz)) 0 0 (va_A (wX6 cs ah sh al bx aw ac at_ rr ru tl h_size h_opened h_tal s0_row s0_made s0_size s1_row s1_made s1_size s2_row s2_made s2_size s3_row s3_made s3_size l_len l_ways l_box w_used w_kind w_size w_left w_last w_top w_wanted c_row c_made c_size t_fac t_der t_rec t_rut t_ris) sz) := by
  refine Met.ofW (cc := cX6_things) (maxL := 2) (ret := (some .int)) (by decide) rfl ?_
  intro p e s m args below meth c s₁ B hml hv
  obtain ⟨rfl, hsz, hP, hK, hD0, hN⟩ := hv
  have hx := B.exec
  have hb := B.bytes
  have hr := B.returns
  have hts0 := atoms_spec (ws := (.code yX6_things cX6_things 2 (some .int) :: gt)) B.pre
  have hts : ∀ w ∈ gt, w.before _ s = true := fun w h => hts0 w (List.mem_cons_of_mem _ h)
  have hown : s.vm.findClass RX6 = some m.cls := findClass_of_methodNamed B.named
  have hlocks := B.notSynchronized
  subst hsz
  have hD := hD0.self (sz := s.heap.size)
  generalize hAe : va_A (wX6 cs ah sh al bx aw ac at_ rr ru tl h_size h_opened h_tal s0_row s0_made s0_size s1_row s1_made s1_size s2_row s2_made s2_size s3_row s3_made s3_size l_len l_ways l_box w_used w_kind w_size w_left w_last w_top w_wanted c_row c_made c_size t_fac t_der t_rec t_rut t_ris) s.heap.size = A at hD ⊢
  have hA : ∀ q : Nat, s.heap.size ≤ q → A q := fun q h => by rw [← hAe]; exact Or.inr h
  have hS : va_S A s.heap s.heap [] := va_S.rf
  have hl := lv_entry ([.ref (ah 0), .int a1]) (n := 2) (Nat.le_of_ble_eq_true rfl)
  rw [lg_entry_eq]
  generalize (lg_sl ([.ref (ah 0), .int a1]) ++ List.replicate (2 - (lg_sl ([.ref (ah 0), .int a1])).length) Slot.unset).toArray = ls at hl ⊢
  have hl : lv_has ls 2 [(0, .ref (ah 0)), (1, .int a1)] := hl
  unfold q6_things at hq
  refine lv_iload_n hx hb dX6_things_0 rfl (lv_at hl 1 rfl) ?_
  refine lv_iconst (v := (1 : Int32)) hx hb dX6_things_1 (by decide) ?_
  refine lv_icmp_lt (tgt := 11) hx hb dX6_things_2 (by decide) (fun c17 => ?_) (fun c17 => ?_)
  · have hq := hq.1 c17
    refine lv_bipush (v := (-2 : Int32)) hx hb dX6_things_11 (by decide) ?_
    exact W.iret (v := (-2 : Int32)) hx hb hr (fun t ht hW => ⟨⟨(-2 : Int32), (h_size, h_opened, s0_row, s0_size, s1_row, s1_size, s2_row, s2_size, s3_row, s3_size, l_len, c_row, c_size), rfl, hq, Bw_mk (by rw [ht]; exact hP) (va_K.moved hW.alike hK) hD⟩, hS.F ht⟩) hS.2.2 dX6_things_13
  · have hq := hq.2 c17
    refine lv_iload_n hx hb dX6_things_5 rfl (lv_at hl 1 rfl) ?_
    refine lv_bipush (v := (18 : Int32)) hx hb dX6_things_6 (by decide) ?_
    refine lv_icmp_le (tgt := 14) hx hb dX6_things_8 (by decide) (fun c18 => ?_) (fun c18 => ?_)
    · have hq := hq.1 c18
      refine lv_aload_n hx hb dX6_things_14 rfl (lv_at hl 0 rfl) ?_
      refine lv_iload_n hx hb dX6_things_15 rfl (lv_at hl 1 rfl) ?_
      refine swv (runV ⟨hx, hb, hml, hown, hts⟩ wf_X6_startWith ml_X6_49 (c6_startWith l dC dI cs ah sh al bx aw ac at_ rr ru tl _ h_size h_opened h_tal s0_row s0_made s0_size s1_row s1_made s1_size s2_row s2_made s2_size s3_row s3_made s3_size l_len l_ways l_box w_used w_kind w_size w_left w_last w_top w_wanted c_row c_made c_size t_fac t_der t_rec t_rut t_ris a1 hq) ⟨⟨rfl, rfl⟩, by decide, by decide⟩ (preW hP hK hN hD) hK hP rfl 0 rfl rfl hl.1 rfl (Nat.le_of_ble_eq_true rfl) dX6_things_16 ⟨(Nat.le_of_ble_eq_true rfl), (Nat.le_of_ble_eq_true rfl)⟩) hD hS hA (fun  u32 H locs hq hP hD hS => ?_)
      obtain ⟨h_size_19, h_opened_20, s0_row_21, s0_size_22, s1_row_23, s1_size_24, s2_row_25, s2_size_26, s3_row_27, s3_size_28, l_len_29, c_row_30, c_size_31⟩ := u32
      try dsimp only at hq
      have hP : va_P (dC, dI) vwCl (wX6 cs ah sh al bx aw ac at_ rr ru tl h_size_19 h_opened_20 h_tal s0_row_21 s0_made s0_size_22 s1_row_23 s1_made s1_size_24 s2_row_25 s2_made s2_size_26 s3_row_27 s3_made s3_size_28 l_len_29 l_ways l_box w_used w_kind w_size w_left w_last w_top w_wanted c_row_30 c_made c_size_31 t_fac t_der t_rec t_rut t_ris) H := hP
      have hD : va_D A (wX6 cs ah sh al bx aw ac at_ rr ru tl h_size_19 h_opened_20 h_tal s0_row_21 s0_made s0_size_22 s1_row_23 s1_made s1_size_24 s2_row_25 s2_made s2_size_26 s3_row_27 s3_made s3_size_28 l_len_29 l_ways l_box w_used w_kind w_size w_left w_last w_top w_wanted c_row_30 c_made c_size_31 t_fac t_der t_rec t_rut t_ris) := hD
      refine lv_iconst (v := (1 : Int32)) hx hb dX6_things_19 (by decide) ?_
      exact W.iret (v := (1 : Int32)) hx hb hr (fun t ht hW => ⟨⟨(1 : Int32), (h_size_19, h_opened_20, s0_row_21, s0_size_22, s1_row_23, s1_size_24, s2_row_25, s2_size_26, s3_row_27, s3_size_28, l_len_29, c_row_30, c_size_31), rfl, hq, Bw_mk (by rw [ht]; exact hP) (va_K.moved hW.alike hK) hD⟩, hS.F ht⟩) hS.2.2 dX6_things_20
    · have hq := hq.2 c18
      refine lv_bipush (v := (-2 : Int32)) hx hb dX6_things_11 (by decide) ?_
      exact W.iret (v := (-2 : Int32)) hx hb hr (fun t ht hW => ⟨⟨(-2 : Int32), (h_size, h_opened, s0_row, s0_size, s1_row, s1_size, s2_row, s2_size, s3_row, s3_size, l_len, c_row, c_size), rfl, hq, Bw_mk (by rw [ht]; exact hP) (va_K.moved hW.alike hK) hD⟩, hS.F ht⟩) hS.2.2 dX6_things_13
set_option maxHeartbeats 4000000 in
set_option maxRecDepth 100000 in
theorem c6_order (l : Launch) (dC : Nat → ClassId) (dI : Nat → Nat → Nat) (cs : Nat → ClassId) (ah : Nat → Nat) (sh : Nat → Nat → Nat) (al : Nat → Nat) (bx : Nat → Nat) (aw : Nat → Nat) (ac : Nat → Nat) (at_ : Nat → Nat) (rr : Nat → Nat) (ru : Nat → Nat) (tl : va_W) (sz : Nat) (h_size : Int32) (h_opened : Int32) (h_tal : Nat → Option Nat) (s0_row : Nat → Int32) (s0_made : Nat → Int32) (s0_size : Int32) (s1_row : Nat → Int32) (s1_made : Nat → Int32) (s1_size : Int32) (s2_row : Nat → Int32) (s2_made : Nat → Int32) (s2_size : Int32) (s3_row : Nat → Int32) (s3_made : Nat → Int32) (s3_size : Int32) (l_len : Nat → Int32) (l_ways : Nat → Int64) (l_box : Nat → Nat → Int32) (w_used : Nat → Int32) (w_kind : Int32) (w_size : Int32) (w_left : Int32) (w_last : Int32) (w_top : Int32) (w_wanted : Int32) (c_row : Nat → Int32) (c_made : Nat → Int32) (c_size : Int32) (t_fac : Nat → Int64) (t_der : Nat → Int64) (t_rec : Nat → Nat → Int64) (t_rut : Nat → Nat → Int64) (t_ris : Nat → Int64) (a1 : Int64) (a3 : Int64) {Q : Int32 → (Nat → Int32) → (Nat → Int32) → Prop} (hq : q6_order c_size c_row c_made a1 a3 Q) : Met l yX6_order (.code yX6_order cX6_order 5 (some .int) :: gt) ({ frames := 2, cells := 0, slots := 0, locals := 53 } : Room) (va_Pc [.ref (ah 0), .long a1, .long a3] (Pw (dC, dI) (KA cs) (wX6 cs ah sh al bx aw ac at_ rr ru tl h_size h_opened h_tal s0_row s0_made s0_size s1_row s1_made s1_size s2_row s2_made s2_size s3_row s3_made s3_size l_len l_ways l_box w_used w_kind w_size w_left w_last w_top w_wanted c_row c_made c_size t_fac t_der t_rec t_rut t_ris) sz)) (va_Qi (fun (r : Int32) (u : (Nat → Int32) × (Nat → Int32)) => Q r u.1 u.2) (Bw (dC, dI) (KA cs) (va_A (wX6 cs ah sh al bx aw ac at_ rr ru tl h_size h_opened h_tal s0_row s0_made s0_size s1_row s1_made s1_size s2_row s2_made s2_size s3_row s3_made s3_size l_len l_ways l_box w_used w_kind w_size w_left w_last w_top w_wanted c_row c_made c_size t_fac t_der t_rec t_rut t_ris) sz) (fun u : (Nat → Int32) × (Nat → Int32) => (wX6 cs ah sh al bx aw ac at_ rr ru tl h_size h_opened h_tal s0_row s0_made s0_size s1_row s1_made s1_size s2_row s2_made s2_size s3_row s3_made s3_size l_len l_ways l_box w_used w_kind w_size w_left w_last w_top w_wanted u.1 u.2 c_size t_fac t_der t_rec t_rut t_ris))) (va_A (wX6 cs ah sh al bx aw ac at_ rr ru tl h_size h_opened h_tal s0_row s0_made s0_size s1_row s1_made s1_size s2_row s2_made s2_size s3_row s3_made s3_size l_len l_ways l_box w_used w_kind w_size w_left w_last w_top w_wanted c_row c_made c_size t_fac t_der t_rec t_rut t_ris) sz)) 0 0 (va_A (wX6 cs ah sh al bx aw ac at_ rr ru tl h_size h_opened h_tal s0_row s0_made s0_size s1_row s1_made s1_size s2_row s2_made s2_size s3_row s3_made s3_size l_len l_ways l_box w_used w_kind w_size w_left w_last w_top w_wanted c_row c_made c_size t_fac t_der t_rec t_rut t_ris) sz) := by
  refine Met.ofW (cc := cX6_order) (maxL := 5) (ret := (some .int)) (by decide) rfl ?_
  intro p e s m args below meth c s₁ B hml hv
  obtain ⟨rfl, hsz, hP, hK, hD0, hN⟩ := hv
  have hx := B.exec
  have hb := B.bytes
  have hr := B.returns
  have hts0 := atoms_spec (ws := (.code yX6_order cX6_order 5 (some .int) :: gt)) B.pre
  have hts : ∀ w ∈ gt, w.before _ s = true := fun w h => hts0 w (List.mem_cons_of_mem _ h)
  have hown : s.vm.findClass RX6 = some m.cls := findClass_of_methodNamed B.named
  have hlocks := B.notSynchronized
  subst hsz
  have hD := hD0.self (sz := s.heap.size)
  generalize hAe : va_A (wX6 cs ah sh al bx aw ac at_ rr ru tl h_size h_opened h_tal s0_row s0_made s0_size s1_row s1_made s1_size s2_row s2_made s2_size s3_row s3_made s3_size l_len l_ways l_box w_used w_kind w_size w_left w_last w_top w_wanted c_row c_made c_size t_fac t_der t_rec t_rut t_ris) s.heap.size = A at hD ⊢
  have hA : ∀ q : Nat, s.heap.size ≤ q → A q := fun q h => by rw [← hAe]; exact Or.inr h
  have hS : va_S A s.heap s.heap [] := va_S.rf
  have hl := lv_entry ([.ref (ah 0), .long a1, .long a3]) (n := 5) (Nat.le_of_ble_eq_true rfl)
  rw [lg_entry_eq]
  generalize (lg_sl ([.ref (ah 0), .long a1, .long a3]) ++ List.replicate (5 - (lg_sl ([.ref (ah 0), .long a1, .long a3])).length) Slot.unset).toArray = ls at hl ⊢
  have hl : lv_has ls 5 [(0, .ref (ah 0)), (1, .long a1), (3, .long a3)] := hl
  unfold q6_order at hq
  refine lv_aload_n hx hb dX6_order_0 rfl (lv_at hl 0 rfl) ?_
  refine va_get (D := (dC, dI)) (ci := 6) (v := .ref (ac 0)) (C := RX6) (T := TX6) (N := 8) hx hb hts uwX6 hown hK hP 0 rfl rfl 0 (by decide) (hts _ fl_X6_10) (fun _ h9 => h9) rfl dX6_order_1 ?_
  refine lv_lload_n hx hb dX6_order_4 rfl (lv_at hl 1 rfl) ?_
  refine lv_lload_n hx hb dX6_order_5 rfl (lv_at hl 2 rfl) ?_
  refine jwi (runV ⟨hx, hb, hml, hown, hts⟩ wf_X1_readFigures ml_X6_53 (c1_readFigures l dC dI cs ac _ c_row c_made c_size a1 a3 hq) ⟨⟨rfl, rfl⟩, by decide, by decide⟩ (preW (hP.sub (ws' := wX1 cs ac c_row c_made c_size) [39, 40, 41] rfl) hK hN (hD.sub (ws' := wX1 cs ac c_row c_made c_size) [39, 40, 41] (by decide) rfl)) hK hP rfl 39 rfl rfl hl.1 rfl (Nat.le_of_ble_eq_true rfl) dX6_order_6 ⟨(Nat.le_of_ble_eq_true rfl), (Nat.le_of_ble_eq_true rfl)⟩) hP hD hS hA 39 42 rfl (fun r6 u9 H locs hq hP hD hS => ?_)
  obtain ⟨c_row_7, c_made_8⟩ := u9
  try dsimp only at hq
  have hP : va_P (dC, dI) vwCl (wX6 cs ah sh al bx aw ac at_ rr ru tl h_size h_opened h_tal s0_row s0_made s0_size s1_row s1_made s1_size s2_row s2_made s2_size s3_row s3_made s3_size l_len l_ways l_box w_used w_kind w_size w_left w_last w_top w_wanted c_row_7 c_made_8 c_size t_fac t_der t_rec t_rut t_ris) H := hP
  have hD : va_D A (wX6 cs ah sh al bx aw ac at_ rr ru tl h_size h_opened h_tal s0_row s0_made s0_size s1_row s1_made s1_size s2_row s2_made s2_size s3_row s3_made s3_size l_len l_ways l_box w_used w_kind w_size w_left w_last w_top w_wanted c_row_7 c_made_8 c_size t_fac t_der t_rec t_rut t_ris) := hD
  refine lv_if_eq (tgt := 16) hx hb dX6_order_9 (by decide) (fun c10 => ?_) (fun c10 => ?_)
  · have hq := hq.1 c10
    refine lv_bipush (v := (-2 : Int32)) hx hb dX6_order_16 (by decide) ?_
    exact W.iret (v := (-2 : Int32)) hx hb hr (fun t ht hW => ⟨⟨(-2 : Int32), (c_row_7, c_made_8), rfl, hq, Bw_mk (by rw [ht]; exact hP) (va_K.moved hW.alike hK) hD⟩, hS.F ht⟩) hS.2.2 dX6_order_18
  · have hq := hq.2 c10
    refine lv_iconst (v := (1 : Int32)) hx hb dX6_order_12 (by decide) ?_
    refine lv_goto (tgt := 18) hx hb dX6_order_13 (by decide) ?_
    exact W.iret (v := (1 : Int32)) hx hb hr (fun t ht hW => ⟨⟨(1 : Int32), (c_row_7, c_made_8), rfl, hq, Bw_mk (by rw [ht]; exact hP) (va_K.moved hW.alike hK) hD⟩, hS.F ht⟩) hS.2.2 dX6_order_18
set_option maxHeartbeats 4000000 in
set_option maxRecDepth 100000 in
theorem c6_at (l : Launch) (dC : Nat → ClassId) (dI : Nat → Nat → Nat) (cs : Nat → ClassId) (ah : Nat → Nat) (sh : Nat → Nat → Nat) (al : Nat → Nat) (bx : Nat → Nat) (aw : Nat → Nat) (ac : Nat → Nat) (at_ : Nat → Nat) (rr : Nat → Nat) (ru : Nat → Nat) (tl : va_W) (h_size : Int32) (h_opened : Int32) (h_tal : Nat → Option Nat) (s0_row : Nat → Int32) (s0_made : Nat → Int32) (s0_size : Int32) (s1_row : Nat → Int32) (s1_made : Nat → Int32) (s1_size : Int32) (s2_row : Nat → Int32) (s2_made : Nat → Int32) (s2_size : Int32) (s3_row : Nat → Int32) (s3_made : Nat → Int32) (s3_size : Int32) (l_len : Nat → Int32) (l_ways : Nat → Int64) (l_box : Nat → Nat → Int32) (w_used : Nat → Int32) (w_kind : Int32) (w_size : Int32) (w_left : Int32) (w_last : Int32) (w_top : Int32) (w_wanted : Int32) (c_row : Nat → Int32) (c_made : Nat → Int32) (c_size : Int32) (t_fac : Nat → Int64) (t_der : Nat → Int64) (t_rec : Nat → Nat → Int64) (t_rut : Nat → Nat → Int64) (t_ris : Nat → Int64) (a1 : Int32) {Q : Int32 → Prop} (hq : q6_at h_size c_row c_size a1 Q) : Met l yX6_at (.code yX6_at cX6_at 2 (some .int) :: gt) ({ frames := 2, cells := 0, slots := 0, locals := 42 } : Room) (va_Pc [.ref (ah 0), .int a1] (Pr (dC, dI) (KA cs) (wX6 cs ah sh al bx aw ac at_ rr ru tl h_size h_opened h_tal s0_row s0_made s0_size s1_row s1_made s1_size s2_row s2_made s2_size s3_row s3_made s3_size l_len l_ways l_box w_used w_kind w_size w_left w_last w_top w_wanted c_row c_made c_size t_fac t_der t_rec t_rut t_ris))) (vp_Si Q) 0 0 (fun _ => False) := by
  refine Met.ofW (cc := cX6_at) (maxL := 2) (ret := (some .int)) (by decide) rfl ?_
  intro p e s m args below meth c s₁ B hml hv
  obtain ⟨rfl, hP, hK, hN⟩ := hv
  have hx := B.exec
  have hb := B.bytes
  have hr := B.returns
  have hts0 := atoms_spec (ws := (.code yX6_at cX6_at 2 (some .int) :: gt)) B.pre
  have hts : ∀ w ∈ gt, w.before _ s = true := fun w h => hts0 w (List.mem_cons_of_mem _ h)
  have hown : s.vm.findClass RX6 = some m.cls := findClass_of_methodNamed B.named
  have hlocks := B.notSynchronized
  have hl := lv_entry ([.ref (ah 0), .int a1]) (n := 2) (Nat.le_of_ble_eq_true rfl)
  rw [lg_entry_eq]
  generalize (lg_sl ([.ref (ah 0), .int a1]) ++ List.replicate (2 - (lg_sl ([.ref (ah 0), .int a1])).length) Slot.unset).toArray = ls at hl ⊢
  have hl : lv_has ls 2 [(0, .ref (ah 0)), (1, .int a1)] := hl
  unfold q6_at at hq
  refine lv_aload_n hx hb dX6_at_0 rfl (lv_at hl 0 rfl) ?_
  refine lv_iload_n hx hb dX6_at_1 rfl (lv_at hl 1 rfl) ?_
  refine roi (runV ⟨hx, hb, hml, hown, hts⟩ wf_X6_isThing ml_X6_57 (c6_isThing l dC dI cs ah sh al bx aw ac at_ rr ru tl h_size h_opened h_tal s0_row s0_made s0_size s1_row s1_made s1_size s2_row s2_made s2_size s3_row s3_made s3_size l_len l_ways l_box w_used w_kind w_size w_left w_last w_top w_wanted c_row c_made c_size t_fac t_der t_rec t_rut t_ris a1 hq) ⟨⟨rfl, rfl⟩, by decide, by decide⟩ (preR hP hK hN) hK hP rfl 0 rfl rfl hl.1 rfl (Nat.le_of_ble_eq_true rfl) dX6_at_2 ⟨(Nat.le_of_ble_eq_true rfl), (Nat.le_of_ble_eq_true rfl)⟩) (fun r4 hq => ?_)
  refine lv_if_eq (tgt := 19) hx hb dX6_at_5 (by decide) (fun c5 => ?_) (fun c5 => ?_)
  · have hq := hq.1 c5
    refine lv_bipush (v := (-2 : Int32)) hx hb dX6_at_19 (by decide) ?_
    exact W.iret (v := (-2 : Int32)) hx hb hr (fun t ht hW => ⟨(-2 : Int32), rfl, hq, ht⟩) (fun q h => absurd h List.not_mem_nil) dX6_at_21
  · have hq := hq.2 c5
    refine lv_aload_n hx hb dX6_at_8 rfl (lv_at hl 0 rfl) ?_
    refine va_get (D := (dC, dI)) (ci := 6) (v := .ref (ac 0)) (C := RX6) (T := TX6) (N := 8) hx hb hts uwX6 hown hK hP 0 rfl rfl 0 (by decide) (hts _ fl_X6_10) (fun _ h9 => h9) rfl dX6_at_9 ?_
    refine lv_iload_n hx hb dX6_at_12 rfl (lv_at hl 1 rfl) ?_
    refine roi (runV ⟨hx, hb, hml, hown, hts⟩ wf_X1_follow ml_X6_61 (c1_follow l dC dI cs ac c_row c_made c_size a1 hq) ⟨⟨rfl, rfl⟩, by decide, by decide⟩ (preR (hP.sub (ws' := wX1 cs ac c_row c_made c_size) [39, 40, 41] rfl) hK hN) hK hP rfl 39 rfl rfl hl.1 rfl (Nat.le_of_ble_eq_true rfl) dX6_at_13 ⟨(Nat.le_of_ble_eq_true rfl), (Nat.le_of_ble_eq_true rfl)⟩) (fun r6 hq => ?_)
    refine lv_goto (tgt := 21) hx hb dX6_at_16 (by decide) ?_
    exact W.iret (v := r6) hx hb hr (fun t ht hW => ⟨r6, rfl, hq, ht⟩) (fun q h => absurd h List.not_mem_nil) dX6_at_21
set_option maxHeartbeats 4000000 in
set_option maxRecDepth 100000 in
theorem c6_swap (l : Launch) (dC : Nat → ClassId) (dI : Nat → Nat → Nat) (cs : Nat → ClassId) (ah : Nat → Nat) (sh : Nat → Nat → Nat) (al : Nat → Nat) (bx : Nat → Nat) (aw : Nat → Nat) (ac : Nat → Nat) (at_ : Nat → Nat) (rr : Nat → Nat) (ru : Nat → Nat) (tl : va_W) (sz : Nat) (h_size : Int32) (h_opened : Int32) (h_tal : Nat → Option Nat) (s0_row : Nat → Int32) (s0_made : Nat → Int32) (s0_size : Int32) (s1_row : Nat → Int32) (s1_made : Nat → Int32) (s1_size : Int32) (s2_row : Nat → Int32) (s2_made : Nat → Int32) (s2_size : Int32) (s3_row : Nat → Int32) (s3_made : Nat → Int32) (s3_size : Int32) (l_len : Nat → Int32) (l_ways : Nat → Int64) (l_box : Nat → Nat → Int32) (w_used : Nat → Int32) (w_kind : Int32) (w_size : Int32) (w_left : Int32) (w_last : Int32) (w_top : Int32) (w_wanted : Int32) (c_row : Nat → Int32) (c_made : Nat → Int32) (c_size : Int32) (t_fac : Nat → Int64) (t_der : Nat → Int64) (t_rec : Nat → Nat → Int64) (t_rut : Nat → Nat → Int64) (t_ris : Nat → Int64) (a1 : Int32) (a2 : Int32) {Q : Int32 → (Nat → Int32) → Prop} (hq : q6_swap h_size c_size c_row a1 a2 Q) : Met l yX6_swap (.code yX6_swap cX6_swap 3 (some .int) :: gt) ({ frames := 2, cells := 0, slots := 0, locals := 44 } : Room) (va_Pc [.ref (ah 0), .int a1, .int a2] (Pw (dC, dI) (KA cs) (wX6 cs ah sh al bx aw ac at_ rr ru tl h_size h_opened h_tal s0_row s0_made s0_size s1_row s1_made s1_size s2_row s2_made s2_size s3_row s3_made s3_size l_len l_ways l_box w_used w_kind w_size w_left w_last w_top w_wanted c_row c_made c_size t_fac t_der t_rec t_rut t_ris) sz)) (va_Qi (fun (r : Int32) (u : (Nat → Int32)) => Q r u) (Bw (dC, dI) (KA cs) (va_A (wX6 cs ah sh al bx aw ac at_ rr ru tl h_size h_opened h_tal s0_row s0_made s0_size s1_row s1_made s1_size s2_row s2_made s2_size s3_row s3_made s3_size l_len l_ways l_box w_used w_kind w_size w_left w_last w_top w_wanted c_row c_made c_size t_fac t_der t_rec t_rut t_ris) sz) (fun u : (Nat → Int32) => (wX6 cs ah sh al bx aw ac at_ rr ru tl h_size h_opened h_tal s0_row s0_made s0_size s1_row s1_made s1_size s2_row s2_made s2_size s3_row s3_made s3_size l_len l_ways l_box w_used w_kind w_size w_left w_last w_top w_wanted u c_made c_size t_fac t_der t_rec t_rut t_ris))) (va_A (wX6 cs ah sh al bx aw ac at_ rr ru tl h_size h_opened h_tal s0_row s0_made s0_size s1_row s1_made s1_size s2_row s2_made s2_size s3_row s3_made s3_size l_len l_ways l_box w_used w_kind w_size w_left w_last w_top w_wanted c_row c_made c_size t_fac t_der t_rec t_rut t_ris) sz)) 0 0 (va_A (wX6 cs ah sh al bx aw ac at_ rr ru tl h_size h_opened h_tal s0_row s0_made s0_size s1_row s1_made s1_size s2_row s2_made s2_size s3_row s3_made s3_size l_len l_ways l_box w_used w_kind w_size w_left w_last w_top w_wanted c_row c_made c_size t_fac t_der t_rec t_rut t_ris) sz) := by
  refine Met.ofW (cc := cX6_swap) (maxL := 3) (ret := (some .int)) (by decide) rfl ?_
  intro p e s m args below meth c s₁ B hml hv
  obtain ⟨rfl, hsz, hP, hK, hD0, hN⟩ := hv
  have hx := B.exec
  have hb := B.bytes
  have hr := B.returns
  have hts0 := atoms_spec (ws := (.code yX6_swap cX6_swap 3 (some .int) :: gt)) B.pre
  have hts : ∀ w ∈ gt, w.before _ s = true := fun w h => hts0 w (List.mem_cons_of_mem _ h)
  have hown : s.vm.findClass RX6 = some m.cls := findClass_of_methodNamed B.named
  have hlocks := B.notSynchronized
  subst hsz
  have hD := hD0.self (sz := s.heap.size)
  generalize hAe : va_A (wX6 cs ah sh al bx aw ac at_ rr ru tl h_size h_opened h_tal s0_row s0_made s0_size s1_row s1_made s1_size s2_row s2_made s2_size s3_row s3_made s3_size l_len l_ways l_box w_used w_kind w_size w_left w_last w_top w_wanted c_row c_made c_size t_fac t_der t_rec t_rut t_ris) s.heap.size = A at hD ⊢
  have hA : ∀ q : Nat, s.heap.size ≤ q → A q := fun q h => by rw [← hAe]; exact Or.inr h
  have hS : va_S A s.heap s.heap [] := va_S.rf
  have hl := lv_entry ([.ref (ah 0), .int a1, .int a2]) (n := 3) (Nat.le_of_ble_eq_true rfl)
  rw [lg_entry_eq]
  generalize (lg_sl ([.ref (ah 0), .int a1, .int a2]) ++ List.replicate (3 - (lg_sl ([.ref (ah 0), .int a1, .int a2])).length) Slot.unset).toArray = ls at hl ⊢
  have hl : lv_has ls 3 [(0, .ref (ah 0)), (1, .int a1), (2, .int a2)] := hl
  unfold q6_swap at hq
  refine lv_aload_n hx hb dX6_swap_0 rfl (lv_at hl 0 rfl) ?_
  refine lv_iload_n hx hb dX6_swap_1 rfl (lv_at hl 1 rfl) ?_
  refine roi (runV ⟨hx, hb, hml, hown, hts⟩ wf_X6_isThing ml_X6_57 (c6_isThing l dC dI cs ah sh al bx aw ac at_ rr ru tl h_size h_opened h_tal s0_row s0_made s0_size s1_row s1_made s1_size s2_row s2_made s2_size s3_row s3_made s3_size l_len l_ways l_box w_used w_kind w_size w_left w_last w_top w_wanted c_row c_made c_size t_fac t_der t_rec t_rut t_ris a1 hq) ⟨⟨rfl, rfl⟩, by decide, by decide⟩ (preR hP hK hN) hK hP rfl 0 rfl rfl hl.1 rfl (Nat.le_of_ble_eq_true rfl) dX6_swap_2 ⟨(Nat.le_of_ble_eq_true rfl), (Nat.le_of_ble_eq_true rfl)⟩) (fun r7 hq => ?_)
  refine lv_if_eq (tgt := 16) hx hb dX6_swap_5 (by decide) (fun c8 => ?_) (fun c8 => ?_)
  · have hq := hq.1 c8
    refine lv_bipush (v := (-2 : Int32)) hx hb dX6_swap_16 (by decide) ?_
    exact W.iret (v := (-2 : Int32)) hx hb hr (fun t ht hW => ⟨⟨(-2 : Int32), c_row, rfl, hq, Bw_mk (by rw [ht]; exact hP) (va_K.moved hW.alike hK) hD⟩, hS.F ht⟩) hS.2.2 dX6_swap_18
  · have hq := hq.2 c8
    refine lv_aload_n hx hb dX6_swap_8 rfl (lv_at hl 0 rfl) ?_
    refine lv_iload_n hx hb dX6_swap_9 rfl (lv_at hl 2 rfl) ?_
    refine roi (runV ⟨hx, hb, hml, hown, hts⟩ wf_X6_isThing ml_X6_57 (c6_isThing l dC dI cs ah sh al bx aw ac at_ rr ru tl h_size h_opened h_tal s0_row s0_made s0_size s1_row s1_made s1_size s2_row s2_made s2_size s3_row s3_made s3_size l_len l_ways l_box w_used w_kind w_size w_left w_last w_top w_wanted c_row c_made c_size t_fac t_der t_rec t_rut t_ris a2 hq) ⟨⟨rfl, rfl⟩, by decide, by decide⟩ (preR hP hK hN) hK hP rfl 0 rfl rfl hl.1 rfl (Nat.le_of_ble_eq_true rfl) dX6_swap_10 ⟨(Nat.le_of_ble_eq_true rfl), (Nat.le_of_ble_eq_true rfl)⟩) (fun r9 hq => ?_)
    refine lv_if_ne (tgt := 19) hx hb dX6_swap_13 (by decide) (fun c10 => ?_) (fun c10 => ?_)
    · have hq := hq.1 c10
      refine lv_aload_n hx hb dX6_swap_19 rfl (lv_at hl 0 rfl) ?_
      refine va_get (D := (dC, dI)) (ci := 6) (v := .ref (ac 0)) (C := RX6) (T := TX6) (N := 8) hx hb hts uwX6 hown hK hP 0 rfl rfl 0 (by decide) (hts _ fl_X6_10) (fun _ h9 => h9) rfl dX6_swap_20 ?_
      refine lv_iload_n hx hb dX6_swap_23 rfl (lv_at hl 1 rfl) ?_
      refine lv_iload_n hx hb dX6_swap_24 rfl (lv_at hl 2 rfl) ?_
      refine jwv (runV ⟨hx, hb, hml, hown, hts⟩ wf_X1_exchange ml_X6_65 (c1_exchange l dC dI cs ac _ c_row c_made c_size a1 a2 hq) ⟨⟨rfl, rfl⟩, by decide, by decide⟩ (preW (hP.sub (ws' := wX1 cs ac c_row c_made c_size) [39, 40, 41] rfl) hK hN (hD.sub (ws' := wX1 cs ac c_row c_made c_size) [39, 40, 41] (by decide) rfl)) hK hP rfl 39 rfl rfl hl.1 rfl (Nat.le_of_ble_eq_true rfl) dX6_swap_25 ⟨(Nat.le_of_ble_eq_true rfl), (Nat.le_of_ble_eq_true rfl)⟩) hP hD hS hA 39 42 rfl (fun  c_row_11 H locs hq hP hD hS => ?_)
      have hP : va_P (dC, dI) vwCl (wX6 cs ah sh al bx aw ac at_ rr ru tl h_size h_opened h_tal s0_row s0_made s0_size s1_row s1_made s1_size s2_row s2_made s2_size s3_row s3_made s3_size l_len l_ways l_box w_used w_kind w_size w_left w_last w_top w_wanted c_row_11 c_made c_size t_fac t_der t_rec t_rut t_ris) H := hP
      have hD : va_D A (wX6 cs ah sh al bx aw ac at_ rr ru tl h_size h_opened h_tal s0_row s0_made s0_size s1_row s1_made s1_size s2_row s2_made s2_size s3_row s3_made s3_size l_len l_ways l_box w_used w_kind w_size w_left w_last w_top w_wanted c_row_11 c_made c_size t_fac t_der t_rec t_rut t_ris) := hD
      refine lv_iconst (v := (1 : Int32)) hx hb dX6_swap_28 (by decide) ?_
      exact W.iret (v := (1 : Int32)) hx hb hr (fun t ht hW => ⟨⟨(1 : Int32), c_row_11, rfl, hq, Bw_mk (by rw [ht]; exact hP) (va_K.moved hW.alike hK) hD⟩, hS.F ht⟩) hS.2.2 dX6_swap_29
    · have hq := hq.2 c10
      refine lv_bipush (v := (-2 : Int32)) hx hb dX6_swap_16 (by decide) ?_
      exact W.iret (v := (-2 : Int32)) hx hb hr (fun t ht hW => ⟨⟨(-2 : Int32), c_row, rfl, hq, Bw_mk (by rw [ht]; exact hP) (va_K.moved hW.alike hK) hD⟩, hS.F ht⟩) hS.2.2 dX6_swap_18
set_option maxHeartbeats 4000000 in
set_option maxRecDepth 100000 in
theorem c6_lay (l : Launch) (dC : Nat → ClassId) (dI : Nat → Nat → Nat) (cs : Nat → ClassId) (ah : Nat → Nat) (sh : Nat → Nat → Nat) (al : Nat → Nat) (bx : Nat → Nat) (aw : Nat → Nat) (ac : Nat → Nat) (at_ : Nat → Nat) (rr : Nat → Nat) (ru : Nat → Nat) (tl : va_W) (sz : Nat) (h_size : Int32) (h_opened : Int32) (h_tal : Nat → Option Nat) (s0_row : Nat → Int32) (s0_made : Nat → Int32) (s0_size : Int32) (s1_row : Nat → Int32) (s1_made : Nat → Int32) (s1_size : Int32) (s2_row : Nat → Int32) (s2_made : Nat → Int32) (s2_size : Int32) (s3_row : Nat → Int32) (s3_made : Nat → Int32) (s3_size : Int32) (l_len : Nat → Int32) (l_ways : Nat → Int64) (l_box : Nat → Nat → Int32) (w_used : Nat → Int32) (w_kind : Int32) (w_size : Int32) (w_left : Int32) (w_last : Int32) (w_top : Int32) (w_wanted : Int32) (c_row : Nat → Int32) (c_made : Nat → Int32) (c_size : Int32) (t_fac : Nat → Int64) (t_der : Nat → Int64) (t_rec : Nat → Nat → Int64) (t_rut : Nat → Nat → Int64) (t_ris : Nat → Int64) (a1 : Int32) {Q : Int32 → (Nat → Int32) → (Nat → Int32) → (Nat → Int32) → (Nat → Int32) → Prop} (hq : q6_lay s0_size s1_size s2_size s3_size c_row s0_row s1_row s2_row s3_row a1 Q) : Met l yX6_lay (.code yX6_lay cX6_lay 2 (some .int) :: gt) ({ frames := 1, cells := 0, slots := 0, locals := 22 } : Room) (va_Pc [.ref (ah 0), .int a1] (Pw (dC, dI) (KA cs) (wX6 cs ah sh al bx aw ac at_ rr ru tl h_size h_opened h_tal s0_row s0_made s0_size s1_row s1_made s1_size s2_row s2_made s2_size s3_row s3_made s3_size l_len l_ways l_box w_used w_kind w_size w_left w_last w_top w_wanted c_row c_made c_size t_fac t_der t_rec t_rut t_ris) sz)) (va_Qi (fun (r : Int32) (u : (Nat → Int32) × (Nat → Int32) × (Nat → Int32) × (Nat → Int32)) => Q r u.1 u.2.1 u.2.2.1 u.2.2.2) (Bw (dC, dI) (KA cs) (va_A (wX6 cs ah sh al bx aw ac at_ rr ru tl h_size h_opened h_tal s0_row s0_made s0_size s1_row s1_made s1_size s2_row s2_made s2_size s3_row s3_made s3_size l_len l_ways l_box w_used w_kind w_size w_left w_last w_top w_wanted c_row c_made c_size t_fac t_der t_rec t_rut t_ris) sz) (fun u : (Nat → Int32) × (Nat → Int32) × (Nat → Int32) × (Nat → Int32) => (wX6 cs ah sh al bx aw ac at_ rr ru tl h_size h_opened h_tal u.1 s0_made s0_size u.2.1 s1_made s1_size u.2.2.1 s2_made s2_size u.2.2.2 s3_made s3_size l_len l_ways l_box w_used w_kind w_size w_left w_last w_top w_wanted c_row c_made c_size t_fac t_der t_rec t_rut t_ris))) (va_A (wX6 cs ah sh al bx aw ac at_ rr ru tl h_size h_opened h_tal s0_row s0_made s0_size s1_row s1_made s1_size s2_row s2_made s2_size s3_row s3_made s3_size l_len l_ways l_box w_used w_kind w_size w_left w_last w_top w_wanted c_row c_made c_size t_fac t_der t_rec t_rut t_ris) sz)) 0 0 (va_A (wX6 cs ah sh al bx aw ac at_ rr ru tl h_size h_opened h_tal s0_row s0_made s0_size s1_row s1_made s1_size s2_row s2_made s2_size s3_row s3_made s3_size l_len l_ways l_box w_used w_kind w_size w_left w_last w_top w_wanted c_row c_made c_size t_fac t_der t_rec t_rut t_ris) sz) := by
  refine Met.ofW (cc := cX6_lay) (maxL := 2) (ret := (some .int)) (by decide) rfl ?_
  intro p e s m args below meth c s₁ B hml hv
  obtain ⟨rfl, hsz, hP, hK, hD0, hN⟩ := hv
  have hx := B.exec
  have hb := B.bytes
  have hr := B.returns
  have hts0 := atoms_spec (ws := (.code yX6_lay cX6_lay 2 (some .int) :: gt)) B.pre
  have hts : ∀ w ∈ gt, w.before _ s = true := fun w h => hts0 w (List.mem_cons_of_mem _ h)
  have hown : s.vm.findClass RX6 = some m.cls := findClass_of_methodNamed B.named
  have hlocks := B.notSynchronized
  subst hsz
  have hD := hD0.self (sz := s.heap.size)
  generalize hAe : va_A (wX6 cs ah sh al bx aw ac at_ rr ru tl h_size h_opened h_tal s0_row s0_made s0_size s1_row s1_made s1_size s2_row s2_made s2_size s3_row s3_made s3_size l_len l_ways l_box w_used w_kind w_size w_left w_last w_top w_wanted c_row c_made c_size t_fac t_der t_rec t_rut t_ris) s.heap.size = A at hD ⊢
  have hA : ∀ q : Nat, s.heap.size ≤ q → A q := fun q h => by rw [← hAe]; exact Or.inr h
  have hS : va_S A s.heap s.heap [] := va_S.rf
  have hl := lv_entry ([.ref (ah 0), .int a1]) (n := 2) (Nat.le_of_ble_eq_true rfl)
  rw [lg_entry_eq]
  generalize (lg_sl ([.ref (ah 0), .int a1]) ++ List.replicate (2 - (lg_sl ([.ref (ah 0), .int a1])).length) Slot.unset).toArray = ls at hl ⊢
  have hl : lv_has ls 2 [(0, .ref (ah 0)), (1, .int a1)] := hl
  unfold q6_lay at hq
  refine lv_iload_n hx hb dX6_lay_0 rfl (lv_at hl 1 rfl) ?_
  refine roi (runS ⟨hx, hb, hml, hown, hts⟩ ws_X6_isPlace ml_X6_69 (c6_isPlace l dC dI cs   a1 hq) ⟨⟨rfl, rfl⟩, by decide, by decide⟩ (preR va_P_nil hK hN) hN rfl hl.1 rfl (Nat.le_of_ble_eq_true rfl) dX6_lay_1 ⟨(Nat.le_of_ble_eq_true rfl), (Nat.le_of_ble_eq_true rfl)⟩) (fun r13 hq => ?_)
  refine lv_if_ne (tgt := 10) hx hb dX6_lay_4 (by decide) (fun c14 => ?_) (fun c14 => ?_)
  · have hq := hq.1 c14
    refine lv_aload_n hx hb dX6_lay_10 rfl (lv_at hl 0 rfl) ?_
    refine va_get (D := (dC, dI)) (ci := 6) (v := .ref (ah 1)) (C := RX6) (T := TX6) (N := 8) hx hb hts uwX6 hown hK hP 0 rfl rfl 1 (by decide) (hts _ fl_X6_16) (fun _ h9 => h9) rfl dX6_lay_11 ?_
    refine lv_iload_n hx hb dX6_lay_14 rfl (lv_at hl 1 rfl) ?_
    obtain ⟨i15, hq⟩ := hq
    refine va_aldq hx hb hK hP 1 3 rfl rfl i15 dX6_lay_15 ?_
    rcases vp_in4 i15 with e16 | e16 | e16 | e16
    · have hq := hq.1 e16
      refine W.eq (g2 := F0 m 16 ls (.ref (sh 0 0) :: [])) (by rw [e16]; rfl) ?_
      refine lv_aload_n hx hb dX6_lay_16 rfl (lv_at hl 0 rfl) ?_
      refine va_get (D := (dC, dI)) (ci := 6) (v := .ref (ac 0)) (C := RX6) (T := TX6) (N := 8) hx hb hts uwX6 hown hK hP 0 rfl rfl 0 (by decide) (hts _ fl_X6_10) (fun _ h9 => h9) rfl dX6_lay_17 ?_
      refine jwv (runV ⟨hx, hb, hml, hown, hts⟩ wf_X1_copyFrom ml_X6_72 (c1_copyFrom l dC dI cs (sh 0) ac _ s0_row s0_made s0_size c_row c_made c_size  hq) ⟨⟨rfl, rfl⟩, by decide, by decide⟩ (preW3 (hP.sub (ws' := wX1 cs (sh 0) s0_row s0_made s0_size) [3, 4, 5] rfl) (hP.sub (ws' := wX1p cs ac c_row c_made c_size) [39, 40, 41] rfl) hK hN (hD.sub (ws' := (wX1 cs (sh 0) s0_row s0_made s0_size) ++ (wX1p cs ac c_row c_made c_size)) [3, 4, 5, 39, 40, 41] (by decide) rfl)) hK hP rfl 3 rfl rfl hl.1 rfl (Nat.le_of_ble_eq_true rfl) dX6_lay_20 ⟨(Nat.le_of_ble_eq_true rfl), (Nat.le_of_ble_eq_true rfl)⟩) hP hD hS hA 3 6 rfl (fun  s0_row_17 H locs hq hP hD hS => ?_)
      have hP : va_P (dC, dI) vwCl (wX6 cs ah sh al bx aw ac at_ rr ru tl h_size h_opened h_tal s0_row_17 s0_made s0_size s1_row s1_made s1_size s2_row s2_made s2_size s3_row s3_made s3_size l_len l_ways l_box w_used w_kind w_size w_left w_last w_top w_wanted c_row c_made c_size t_fac t_der t_rec t_rut t_ris) H := hP
      have hD : va_D A (wX6 cs ah sh al bx aw ac at_ rr ru tl h_size h_opened h_tal s0_row_17 s0_made s0_size s1_row s1_made s1_size s2_row s2_made s2_size s3_row s3_made s3_size l_len l_ways l_box w_used w_kind w_size w_left w_last w_top w_wanted c_row c_made c_size t_fac t_der t_rec t_rut t_ris) := hD
      refine lv_iconst (v := (1 : Int32)) hx hb dX6_lay_23 (by decide) ?_
      exact W.iret (v := (1 : Int32)) hx hb hr (fun t ht hW => ⟨⟨(1 : Int32), (s0_row_17, s1_row, s2_row, s3_row), rfl, hq, Bw_mk (by rw [ht]; exact hP) (va_K.moved hW.alike hK) hD⟩, hS.F ht⟩) hS.2.2 dX6_lay_24
    · have hq := hq.2.1 e16
      refine W.eq (g2 := F0 m 16 ls (.ref (sh 1 0) :: [])) (by rw [e16]; rfl) ?_
      refine lv_aload_n hx hb dX6_lay_16 rfl (lv_at hl 0 rfl) ?_
      refine va_get (D := (dC, dI)) (ci := 6) (v := .ref (ac 0)) (C := RX6) (T := TX6) (N := 8) hx hb hts uwX6 hown hK hP 0 rfl rfl 0 (by decide) (hts _ fl_X6_10) (fun _ h9 => h9) rfl dX6_lay_17 ?_
      refine jwv (runV ⟨hx, hb, hml, hown, hts⟩ wf_X1_copyFrom ml_X6_72 (c1_copyFrom l dC dI cs (sh 1) ac _ s1_row s1_made s1_size c_row c_made c_size  hq) ⟨⟨rfl, rfl⟩, by decide, by decide⟩ (preW3 (hP.sub (ws' := wX1 cs (sh 1) s1_row s1_made s1_size) [6, 7, 8] rfl) (hP.sub (ws' := wX1p cs ac c_row c_made c_size) [39, 40, 41] rfl) hK hN (hD.sub (ws' := (wX1 cs (sh 1) s1_row s1_made s1_size) ++ (wX1p cs ac c_row c_made c_size)) [6, 7, 8, 39, 40, 41] (by decide) rfl)) hK hP rfl 6 rfl rfl hl.1 rfl (Nat.le_of_ble_eq_true rfl) dX6_lay_20 ⟨(Nat.le_of_ble_eq_true rfl), (Nat.le_of_ble_eq_true rfl)⟩) hP hD hS hA 6 9 rfl (fun  s1_row_19 H locs hq hP hD hS => ?_)
      have hP : va_P (dC, dI) vwCl (wX6 cs ah sh al bx aw ac at_ rr ru tl h_size h_opened h_tal s0_row s0_made s0_size s1_row_19 s1_made s1_size s2_row s2_made s2_size s3_row s3_made s3_size l_len l_ways l_box w_used w_kind w_size w_left w_last w_top w_wanted c_row c_made c_size t_fac t_der t_rec t_rut t_ris) H := hP
      have hD : va_D A (wX6 cs ah sh al bx aw ac at_ rr ru tl h_size h_opened h_tal s0_row s0_made s0_size s1_row_19 s1_made s1_size s2_row s2_made s2_size s3_row s3_made s3_size l_len l_ways l_box w_used w_kind w_size w_left w_last w_top w_wanted c_row c_made c_size t_fac t_der t_rec t_rut t_ris) := hD
      refine lv_iconst (v := (1 : Int32)) hx hb dX6_lay_23 (by decide) ?_
      exact W.iret (v := (1 : Int32)) hx hb hr (fun t ht hW => ⟨⟨(1 : Int32), (s0_row, s1_row_19, s2_row, s3_row), rfl, hq, Bw_mk (by rw [ht]; exact hP) (va_K.moved hW.alike hK) hD⟩, hS.F ht⟩) hS.2.2 dX6_lay_24
    · have hq := hq.2.2.1 e16
      refine W.eq (g2 := F0 m 16 ls (.ref (sh 2 0) :: [])) (by rw [e16]; rfl) ?_
      refine lv_aload_n hx hb dX6_lay_16 rfl (lv_at hl 0 rfl) ?_
      refine va_get (D := (dC, dI)) (ci := 6) (v := .ref (ac 0)) (C := RX6) (T := TX6) (N := 8) hx hb hts uwX6 hown hK hP 0 rfl rfl 0 (by decide) (hts _ fl_X6_10) (fun _ h9 => h9) rfl dX6_lay_17 ?_
      refine jwv (runV ⟨hx, hb, hml, hown, hts⟩ wf_X1_copyFrom ml_X6_72 (c1_copyFrom l dC dI cs (sh 2) ac _ s2_row s2_made s2_size c_row c_made c_size  hq) ⟨⟨rfl, rfl⟩, by decide, by decide⟩ (preW3 (hP.sub (ws' := wX1 cs (sh 2) s2_row s2_made s2_size) [9, 10, 11] rfl) (hP.sub (ws' := wX1p cs ac c_row c_made c_size) [39, 40, 41] rfl) hK hN (hD.sub (ws' := (wX1 cs (sh 2) s2_row s2_made s2_size) ++ (wX1p cs ac c_row c_made c_size)) [9, 10, 11, 39, 40, 41] (by decide) rfl)) hK hP rfl 9 rfl rfl hl.1 rfl (Nat.le_of_ble_eq_true rfl) dX6_lay_20 ⟨(Nat.le_of_ble_eq_true rfl), (Nat.le_of_ble_eq_true rfl)⟩) hP hD hS hA 9 12 rfl (fun  s2_row_21 H locs hq hP hD hS => ?_)
      have hP : va_P (dC, dI) vwCl (wX6 cs ah sh al bx aw ac at_ rr ru tl h_size h_opened h_tal s0_row s0_made s0_size s1_row s1_made s1_size s2_row_21 s2_made s2_size s3_row s3_made s3_size l_len l_ways l_box w_used w_kind w_size w_left w_last w_top w_wanted c_row c_made c_size t_fac t_der t_rec t_rut t_ris) H := hP
      have hD : va_D A (wX6 cs ah sh al bx aw ac at_ rr ru tl h_size h_opened h_tal s0_row s0_made s0_size s1_row s1_made s1_size s2_row_21 s2_made s2_size s3_row s3_made s3_size l_len l_ways l_box w_used w_kind w_size w_left w_last w_top w_wanted c_row c_made c_size t_fac t_der t_rec t_rut t_ris) := hD
      refine lv_iconst (v := (1 : Int32)) hx hb dX6_lay_23 (by decide) ?_
      exact W.iret (v := (1 : Int32)) hx hb hr (fun t ht hW => ⟨⟨(1 : Int32), (s0_row, s1_row, s2_row_21, s3_row), rfl, hq, Bw_mk (by rw [ht]; exact hP) (va_K.moved hW.alike hK) hD⟩, hS.F ht⟩) hS.2.2 dX6_lay_24
    · have hq := hq.2.2.2 e16
      refine W.eq (g2 := F0 m 16 ls (.ref (sh 3 0) :: [])) (by rw [e16]; rfl) ?_
      refine lv_aload_n hx hb dX6_lay_16 rfl (lv_at hl 0 rfl) ?_
      refine va_get (D := (dC, dI)) (ci := 6) (v := .ref (ac 0)) (C := RX6) (T := TX6) (N := 8) hx hb hts uwX6 hown hK hP 0 rfl rfl 0 (by decide) (hts _ fl_X6_10) (fun _ h9 => h9) rfl dX6_lay_17 ?_
      refine jwv (runV ⟨hx, hb, hml, hown, hts⟩ wf_X1_copyFrom ml_X6_72 (c1_copyFrom l dC dI cs (sh 3) ac _ s3_row s3_made s3_size c_row c_made c_size  hq) ⟨⟨rfl, rfl⟩, by decide, by decide⟩ (preW3 (hP.sub (ws' := wX1 cs (sh 3) s3_row s3_made s3_size) [12, 13, 14] rfl) (hP.sub (ws' := wX1p cs ac c_row c_made c_size) [39, 40, 41] rfl) hK hN (hD.sub (ws' := (wX1 cs (sh 3) s3_row s3_made s3_size) ++ (wX1p cs ac c_row c_made c_size)) [12, 13, 14, 39, 40, 41] (by decide) rfl)) hK hP rfl 12 rfl rfl hl.1 rfl (Nat.le_of_ble_eq_true rfl) dX6_lay_20 ⟨(Nat.le_of_ble_eq_true rfl), (Nat.le_of_ble_eq_true rfl)⟩) hP hD hS hA 12 15 rfl (fun  s3_row_23 H locs hq hP hD hS => ?_)
      have hP : va_P (dC, dI) vwCl (wX6 cs ah sh al bx aw ac at_ rr ru tl h_size h_opened h_tal s0_row s0_made s0_size s1_row s1_made s1_size s2_row s2_made s2_size s3_row_23 s3_made s3_size l_len l_ways l_box w_used w_kind w_size w_left w_last w_top w_wanted c_row c_made c_size t_fac t_der t_rec t_rut t_ris) H := hP
      have hD : va_D A (wX6 cs ah sh al bx aw ac at_ rr ru tl h_size h_opened h_tal s0_row s0_made s0_size s1_row s1_made s1_size s2_row s2_made s2_size s3_row_23 s3_made s3_size l_len l_ways l_box w_used w_kind w_size w_left w_last w_top w_wanted c_row c_made c_size t_fac t_der t_rec t_rut t_ris) := hD
      refine lv_iconst (v := (1 : Int32)) hx hb dX6_lay_23 (by decide) ?_
      exact W.iret (v := (1 : Int32)) hx hb hr (fun t ht hW => ⟨⟨(1 : Int32), (s0_row, s1_row, s2_row, s3_row_23), rfl, hq, Bw_mk (by rw [ht]; exact hP) (va_K.moved hW.alike hK) hD⟩, hS.F ht⟩) hS.2.2 dX6_lay_24
  · have hq := hq.2 c14
    refine lv_bipush (v := (-2 : Int32)) hx hb dX6_lay_7 (by decide) ?_
    exact W.iret (v := (-2 : Int32)) hx hb hr (fun t ht hW => ⟨⟨(-2 : Int32), (s0_row, s1_row, s2_row, s3_row), rfl, hq, Bw_mk (by rw [ht]; exact hP) (va_K.moved hW.alike hK) hD⟩, hS.F ht⟩) hS.2.2 dX6_lay_9
