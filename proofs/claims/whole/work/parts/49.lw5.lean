def JI (J : JTy) : Prop := q6_init (fun t_fac t_der t_rec t_rut t_ris h_size h_opened s0_row s0_size s1_row s1_size s2_row s2_size s3_row s3_size l_len c_row c_size => q7_begin 4 (fun _ => 0) (fun _ => 0) 2 (fun _ => 0) (fun m_order m_shelf m_opens m_listed => J h_size h_opened s0_row (fun _ => 0) s0_size s1_row (fun _ => 0) s1_size s2_row (fun _ => 0) s2_size s3_row (fun _ => 0) s3_size l_len (fun _ => 0) (fun _ _ => 0) (fun _ => 0) 0 0 0 0 0 0 c_row (fun _ => 0) c_size t_fac t_der t_rec t_rut t_ris 4 m_order m_shelf m_opens (fun _ => 0) m_listed (fun _ => 0) (fun _ => 0) (fun _ => 0) (fun _ => 0) (fun _ => 0) 0 (fun _ => 0) 0 0 0))
theorem kw {s : State} {b : Nat} (hts : ∀ w ∈ lw_tbl, w.before #[Value.ref b] s = true) {w : Cond} (i : Nat) (h : tables_1[i]? = some w) : w.before #[Value.ref b] s = true := hts w (List.mem_append_right _ (List.mem_of_getElem? h))
theorem kw_NW {s : State} {b : Nat} (hts : ∀ w ∈ lw_tbl, w.before #[Value.ref b] s = true) : NW s := by
  refine ⟨?_, ?_, ?_⟩
  · intro q hq
    unfold nestL at hq
    rcases List.mem_cons.mp hq with rfl | hq
    · exact kw (w := .methodLinkNest "HundredBoxes" 9 ⟨"HundredBoxes$Order", "<init>", "()V"⟩ "HundredBoxes") hts 21 (by decide +kernel)
    rcases List.mem_cons.mp hq with rfl | hq
    · exact kw (w := .methodLinkNest "HundredBoxes" 22 ⟨"HundredBoxes$Lists", "<init>", "()V"⟩ "HundredBoxes") hts 39 (by decide +kernel)
    rcases List.mem_cons.mp hq with rfl | hq
    · exact kw (w := .methodLinkNest "HundredBoxes$Tables" 60 ⟨"HundredBoxes", "entry", "([JI)J"⟩ "HundredBoxes") hts 99 (by decide +kernel)
    rcases List.mem_cons.mp hq with rfl | hq
    · exact kw (w := .methodLinkNest "HundredBoxes$Order" 79 ⟨"HundredBoxes", "commonMultiple", "(II)I"⟩ "HundredBoxes") hts 324 (by decide +kernel)
    rcases List.mem_cons.mp hq with rfl | hq
    · exact kw (w := .methodLinkNest "HundredBoxes$Tally" 73 ⟨"HundredBoxes", "quotient", "(JJ)J"⟩ "HundredBoxes") hts 379 (by decide +kernel)
    rcases List.mem_cons.mp hq with rfl | hq
    · exact kw (w := .methodLinkNest "HundredBoxes$Partition" 25 ⟨"HundredBoxes", "commonMultiple", "(II)I"⟩ "HundredBoxes") hts 392 (by decide +kernel)
    rcases List.mem_cons.mp hq with rfl | hq
    · exact kw (w := .methodLinkNest "HundredBoxes$Tally" 95 ⟨"HundredBoxes", "entry", "([JI)J"⟩ "HundredBoxes") hts 437 (by decide +kernel)
    exact absurd hq List.not_mem_nil
  · exact va_AO.of (kw (w := .arrayOver (.object "HundredBoxes$Order")) hts 36 (by decide +kernel))
  · exact va_AO.of (kw (w := .arrayOver (.object "HundredBoxes$Tally")) hts 151 (by decide +kernel))
theorem kw_NV {s : State} {b : Nat} (hts : ∀ w ∈ lw_tbl, w.before #[Value.ref b] s = true) : NV s := by
  exact ⟨kw (w := .arrayOver (.array .int)) hts 44 (by decide +kernel), kw (w := .arrayOver (.array .long)) hts 63 (by decide +kernel)⟩
theorem kw_K {s : State} {b : Nat} (hts : ∀ w ∈ gt, w.before #[Value.ref b] s = true) (hN : NW s) (hV : NV s) : ∃ (dC : Nat → ClassId) (dI : Nat → Nat → Nat) (cs : Nat → ClassId), va_K (dC, dI) vwCl (KA cs) s := by
  obtain ⟨c0, i0, k0⟩ := u_known (C := RX0) (T := TX0) (N := 3) (n := 3) hts uwX0 (hts _ ib_X0)
  obtain ⟨c1, i1, k1⟩ := u_known (C := RX1) (T := TX1) (N := 3) (n := 3) hts uwX1 (hts _ ib_X1)
  obtain ⟨c2, i2, k2⟩ := u_known (C := RX2) (T := TX2) (N := 2) (n := 2) hts uwX2 (hts _ ib_X2)
  obtain ⟨c3, i3, k3⟩ := u_known (C := RX3) (T := TX3) (N := 5) (n := 5) hts uwX3 (hts _ ib_X3)
  obtain ⟨c4, i4, k4⟩ := u_known (C := RX4) (T := TX4) (N := 3) (n := 3) hts uwX4 (hts _ ib_X4)
  obtain ⟨c5, i5, k5⟩ := u_known (C := RX5) (T := TX5) (N := 8) (n := 8) hts uwX5 (hts _ ib_X5)
  obtain ⟨c6, i6, k6⟩ := u_known (C := RX6) (T := TX6) (N := 8) (n := 8) hts uwX6 (hts _ ib_X6)
  obtain ⟨c7, i7, k7⟩ := u_known (C := RX7) (T := TX7) (N := 16) (n := 16) hts uwX7 (hts _ ib_X7)
  have hp : ∀ (ty : FieldType), Cond.arrayClass ty ∈ gt → (∀ cA, s.vm.findClass ("[" ++ ty.toString) = some cA → va_RA s cA ty) → ∃ cA, ArrOfT s cA ty ∧ va_RA s cA ty := fun ty hm hra => by
    obtain ⟨cA, kA, comp, h1, h2, h3⟩ := Cond.arrayClass_spec (hts _ hm)
    exact ⟨cA, fun n z => ⟨fun k h => (by cases h), kA, h2, comp, h3⟩, hra cA h1⟩
  obtain ⟨a0, h0⟩ := hp .int ac_int (fun _ h => h)
  obtain ⟨a1, h1⟩ := hp .long ac_long (fun _ h => h)
  obtain ⟨a2, h2⟩ := hp .boolean ac_boolean (fun _ h => h)
  have hq : ∀ C : String, va_AO C s → ∃ cA, ArrOfT s cA (.object C) ∧ va_RA s cA (.object C) := fun C h => by
    obtain ⟨comp, cA, kA, h1, h2, h3, h4, h5⟩ := Cond.arrayOver_spec h
    exact ⟨cA, fun n z => ⟨fun k h => (by cases h), kA, h3, comp, h4⟩, kA, comp, h3, h4, h1, h5⟩
  obtain ⟨a3, h3⟩ := hq _ hN.2.1
  obtain ⟨a4, h4⟩ := hq _ hN.2.2
  have hr : ∀ ty : FieldType, va_AOA ty s → ∃ cA, ArrOfT s cA (.array ty) ∧ va_RA s cA (.array ty) := fun ty h => by
    obtain ⟨comp, cA, kA, h1, h2, h3, h4⟩ := Cond.arrayOver_specA h
    exact ⟨cA, fun n z => ⟨fun k h => (by cases h), kA, h2, comp, h3⟩, h4⟩
  obtain ⟨a5, h5⟩ := hr _ hV.1
  obtain ⟨a6, h6⟩ := hr _ hV.2
  refine ⟨fun k => ([c0, c1, c2, c3, c4, c5, c6, c7] : List ClassId).getD k 0, fun k => ([i0, i1, i2, i3, i4, i5, i6, i7] : List (Nat → Nat)).getD k (fun _ => 0), fun k => ([a0, a1, a2, a3, a4, a5, a6] : List ClassId).getD k 0, fun k q hq => ?_, fun k q hq => ?_⟩
  · match k, hq with
    | 0, hq => cases hq; exact k0
    | 1, hq => cases hq; exact k1
    | 2, hq => cases hq; exact k2
    | 3, hq => cases hq; exact k3
    | 4, hq => cases hq; exact k4
    | 5, hq => cases hq; exact k5
    | 6, hq => cases hq; exact k6
    | 7, hq => cases hq; exact k7
    | k + 8, hq => simp [vwCl] at hq
  · match k, hq with
    | 0, hq => cases hq; exact h0
    | 1, hq => cases hq; exact h1
    | 2, hq => cases hq; exact h2
    | 3, hq => cases hq; exact h3
    | 4, hq => cases hq; exact h4
    | 5, hq => cases hq; exact h5
    | 6, hq => cases hq; exact h6
    | k + 7, hq => simp [KA] at hq
set_option maxHeartbeats 4000000 in
set_option maxRecDepth 100000 in
theorem law_start {p : Program} {e : Env} {s : State} {m : MethodId} {below : List Frame} {meth : Method} {c : Code} (l : Launch) {b L : Nat} {xs : Nat → Int32} {J : JTy} {G : Nat → Nat → (Nat → Int64) → Prop} (hJI : JI J) (hJ0 : JS_things J G) (hJ1 : JS_order J G) (hJ2 : JS_at J G) (hJ3 : JS_swap J G) (hJ4 : JS_lay J G) (hJ5 : JS_take J G) (hJ6 : JS_then J G) (hJ7 : JS_back J G) (hJ8 : JS_number J G) (hJ9 : JS_many J G) (hJ10 : JS_mean J G) (hJ11 : JS_row J G) (hJ12 : JS_place J G) (hJ13 : JS_toRounds J G) (hJ14 : JS_toRecords J G) (hJ15 : JS_opens J G) (hJ16 : JS_list J G) (hJ17 : JS_forget J G) (hJ18 : JS_wins J G) (hJ19 : JS_allWin J G) (hJ20 : JS_count J G) (hL : L ≤ 2560) (C0 : lw_At p s m meth c b L xs) : W p l e room_1 s m #[Value.ref b] below meth c s.heap [] 0 0 (lw_Z below #[Value.ref b] s) (entryFrame m ([Value.ref b] : List Value).toArray 4) := by
  obtain ⟨hx, hb, hr, hml, hown, hts9, hX, hbl, hlocks, hgv⟩ := C0
  have hA : ∀ q : Nat, s.heap.size ≤ q → (fun q : Nat => s.heap.size ≤ q) q := fun _ h => h
  have hts : ∀ w ∈ gt, w.before #[Value.ref b] s = true := fun w h => hts9 w (List.mem_filter.mp h).1
  have hN := kw_NW hts9
  have hV := kw_NV hts9
  obtain ⟨dC, dI, cs, hK⟩ := kw_K hts hN hV
  have hS : va_S (fun q : Nat => s.heap.size ≤ q) s.heap s.heap [] := va_S.rf
  have hP : va_P (dC, dI) vwCl ([] : va_W) s.heap := va_P_nil
  have hD : va_D (fun q : Nat => s.heap.size ≤ q) ([] : va_W) := ⟨fun i j p q h => by simp at h, fun k q h => by simp at h⟩
  have hl := lv_entry ([.ref b]) (n := 4) (Nat.le_of_ble_eq_true rfl)
  rw [lg_entry_eq]
  generalize (lg_sl ([.ref b]) ++ List.replicate (4 - (lg_sl ([.ref b])).length) Slot.unset).toArray = ls at hl ⊢
  have hl : lv_has ls 4 [(0, .ref b)] := hl
  refine va_new (ci := 6) (fs := [.null, .null, .null, .null, .null, .null, .int 0, .int 0]) (C := RX6) (T := TX6) (N := 8) hx hb hts uwX6 tyX6 tyX6_ok hown (hts _ cl_L_7) (hts _ ib_X6) (hts _ in_X6) hK hP hD hS hA rfl (fun j hj => by rcases (show j = 0 ∨ j = 1 ∨ j = 2 ∨ j = 3 ∨ j = 4 ∨ j = 5 ∨ j = 6 ∨ j = 7 by omega) with rfl | rfl | rfl | rfl | rfl | rfl | rfl | rfl <;> rfl) (Nat.le_of_ble_eq_true rfl) (Nat.le_of_ble_eq_true rfl) dL_law_0 (fun q1 H hP hD hS => ?_)
  have hP : va_P (dC, dI) vwCl ([] ++ ([(q1, .inr (6, [.null, .null, .null, .null, .null, .null, .int 0, .int 0]))] ++ [])) H := hP
  have hD : va_D (fun q : Nat => s.heap.size ≤ q) ([] ++ ([(q1, .inr (6, [.null, .null, .null, .null, .null, .null, .int 0, .int 0]))] ++ [])) := hD
  refine lv_dup hx hb dL_law_3 rfl ?_
  refine jxv [] [] (runI ⟨hx, hb, hml, hown, hts⟩ wi_X6_init ml_L_9 (c6_init l dC dI cs q1 _ hJI) ⟨⟨rfl, rfl⟩, by decide, by decide⟩ (preV hV hP hK hN hD) hN rfl hl.1 rfl (Nat.le_of_ble_eq_true rfl) dL_law_4 ⟨(Nat.le_of_ble_eq_true rfl), (Nat.le_of_ble_eq_true rfl)⟩) hP hD hS hA (fun u H locs hw hP2 hD2 hS => ?_)
  obtain ⟨ah, sh, al, bx, aw, ac, at_, rr, ru, t_fac, t_der, t_rec, t_rut, t_ris, h_size, h_opened, s0_row, s0_size, s1_row, s1_size, s2_row, s2_size, s3_row, s3_size, l_len, c_row, c_size⟩ := u
  obtain ⟨hw, hq⟩ := hw
  have hw : ah 0 = q1 := hw
  try dsimp only at hq
  have hP : va_P (dC, dI) vwCl (wX6 cs ah sh al bx aw ac at_ rr ru ([]) h_size h_opened (fun _ => none) s0_row (fun _ => 0) s0_size s1_row (fun _ => 0) s1_size s2_row (fun _ => 0) s2_size s3_row (fun _ => 0) s3_size l_len (fun _ => 0) (fun _ _ => 0) (fun _ => 0) 0 0 0 0 0 0 c_row (fun _ => 0) c_size t_fac t_der t_rec t_rut t_ris) H := va_P_l hP2
  have hD : va_D (fun q : Nat => s.heap.size ≤ q) (wX6 cs ah sh al bx aw ac at_ rr ru ([]) h_size h_opened (fun _ => none) s0_row (fun _ => 0) s0_size s1_row (fun _ => 0) s1_size s2_row (fun _ => 0) s2_size s3_row (fun _ => 0) s3_size l_len (fun _ => 0) (fun _ _ => 0) (fun _ => 0) 0 0 0 0 0 0 c_row (fun _ => 0) c_size t_fac t_der t_rec t_rut t_ris) := va_D_l hD2
  rw [← hw]
  refine lv_astore_n (lv' := [(1, .ref (ah 0)), (0, .ref b)]) hx hb dL_law_7 rfl hl (by decide) rfl (fun ls hl => ?_)
  refine va_new (ci := 7) (fs := [.int 0, .null, .null, .int 0, .null, .null, .null, .null, .null, .null, .null, .int 0, .null, .int 0, .int 0, .int 0]) (C := RX7) (T := TX7) (N := 16) hx hb hts uwX7 tyX7 tyX7_ok hown (hts _ cl_L_10) (hts _ ib_X7) (hts _ in_X7) hK hP hD hS hA rfl (fun j hj => by rcases (show j = 0 ∨ j = 1 ∨ j = 2 ∨ j = 3 ∨ j = 4 ∨ j = 5 ∨ j = 6 ∨ j = 7 ∨ j = 8 ∨ j = 9 ∨ j = 10 ∨ j = 11 ∨ j = 12 ∨ j = 13 ∨ j = 14 ∨ j = 15 by omega) with rfl | rfl | rfl | rfl | rfl | rfl | rfl | rfl | rfl | rfl | rfl | rfl | rfl | rfl | rfl | rfl <;> rfl) (Nat.le_of_ble_eq_true rfl) (Nat.le_of_ble_eq_true rfl) dL_law_8 (fun q2 H hP hD hS => ?_)
  have hP : va_P (dC, dI) vwCl ((wX6 cs ah sh al bx aw ac at_ rr ru ([]) h_size h_opened (fun _ => none) s0_row (fun _ => 0) s0_size s1_row (fun _ => 0) s1_size s2_row (fun _ => 0) s2_size s3_row (fun _ => 0) s3_size l_len (fun _ => 0) (fun _ _ => 0) (fun _ => 0) 0 0 0 0 0 0 c_row (fun _ => 0) c_size t_fac t_der t_rec t_rut t_ris) ++ ([(q2, .inr (7, [.int 0, .null, .null, .int 0, .null, .null, .null, .null, .null, .null, .null, .int 0, .null, .int 0, .int 0, .int 0]))] ++ [])) H := hP
  have hD : va_D (fun q : Nat => s.heap.size ≤ q) ((wX6 cs ah sh al bx aw ac at_ rr ru ([]) h_size h_opened (fun _ => none) s0_row (fun _ => 0) s0_size s1_row (fun _ => 0) s1_size s2_row (fun _ => 0) s2_size s3_row (fun _ => 0) s3_size l_len (fun _ => 0) (fun _ _ => 0) (fun _ => 0) 0 0 0 0 0 0 c_row (fun _ => 0) c_size t_fac t_der t_rec t_rut t_ris) ++ ([(q2, .inr (7, [.int 0, .null, .null, .int 0, .null, .null, .null, .null, .null, .null, .null, .int 0, .null, .int 0, .int 0, .int 0]))] ++ [])) := hD
  refine lv_dup hx hb dL_law_11 rfl ?_
  refine jxv (wX6 cs ah sh al bx aw ac at_ rr ru ([]) h_size h_opened (fun _ => none) s0_row (fun _ => 0) s0_size s1_row (fun _ => 0) s1_size s2_row (fun _ => 0) s2_size s3_row (fun _ => 0) s3_size l_len (fun _ => 0) (fun _ _ => 0) (fun _ => 0) 0 0 0 0 0 0 c_row (fun _ => 0) c_size t_fac t_der t_rec t_rut t_ris) [] (runI ⟨hx, hb, hml, hown, hts⟩ wi_X7_init ml_L_12 (c7_init l dC dI cs q2 _ hq) ⟨⟨rfl, rfl⟩, by decide, by decide⟩ (preW (va_P_l (va_P_r hP)) hK hN (va_D_l (va_D_r hD))) hN rfl hl.1 rfl (Nat.le_of_ble_eq_true rfl) dL_law_12 ⟨(Nat.le_of_ble_eq_true rfl), (Nat.le_of_ble_eq_true rfl)⟩) hP hD hS hA (fun u H locs hw2 hP3 hD3 hS => ?_)
  obtain ⟨ad, m_order, m_shelf, m_opens, m_listed⟩ := u
  obtain ⟨hw2, hJ⟩ := hw2
  have hw2 : ad 0 = q2 := hw2
  try dsimp only at hJ
  have hp9 : ((wX6 cs ah sh al bx aw ac at_ rr ru ([]) h_size h_opened (fun _ => none) s0_row (fun _ => 0) s0_size s1_row (fun _ => 0) s1_size s2_row (fun _ => 0) s2_size s3_row (fun _ => 0) s3_size l_len (fun _ => 0) (fun _ _ => 0) (fun _ => 0) 0 0 0 0 0 0 c_row (fun _ => 0) c_size t_fac t_der t_rec t_rut t_ris) ++ ((wX7 cs ad 4 m_order m_shelf m_opens (fun _ => 0) m_listed (fun _ => 0) (fun _ => 0) (fun _ => 0) (fun _ => 0) (fun _ => 0) 0 (fun _ => 0) 0 0 0) ++ []) : va_W).Perm ((wX7 cs ad 4 m_order m_shelf m_opens (fun _ => 0) m_listed (fun _ => 0) (fun _ => 0) (fun _ => 0) (fun _ => 0) (fun _ => 0) 0 (fun _ => 0) 0 0 0) ++ ((wX6 cs ah sh al bx aw ac at_ rr ru ([]) h_size h_opened (fun _ => none) s0_row (fun _ => 0) s0_size s1_row (fun _ => 0) s1_size s2_row (fun _ => 0) s2_size s3_row (fun _ => 0) s3_size l_len (fun _ => 0) (fun _ _ => 0) (fun _ => 0) 0 0 0 0 0 0 c_row (fun _ => 0) c_size t_fac t_der t_rec t_rut t_ris) ++ [])) := by rw [List.append_nil, List.append_nil]; exact List.perm_append_comm
  have hP : va_P (dC, dI) vwCl ((wX7 cs ad 4 m_order m_shelf m_opens (fun _ => 0) m_listed (fun _ => 0) (fun _ => 0) (fun _ => 0) (fun _ => 0) (fun _ => 0) 0 (fun _ => 0) 0 0 0) ++ ((wX6 cs ah sh al bx aw ac at_ rr ru ([]) h_size h_opened (fun _ => none) s0_row (fun _ => 0) s0_size s1_row (fun _ => 0) s1_size s2_row (fun _ => 0) s2_size s3_row (fun _ => 0) s3_size l_len (fun _ => 0) (fun _ _ => 0) (fun _ => 0) 0 0 0 0 0 0 c_row (fun _ => 0) c_size t_fac t_der t_rec t_rut t_ris) ++ [])) H := va_P_perm hp9 hP3
  have hD : va_D (fun q : Nat => s.heap.size ≤ q) ((wX7 cs ad 4 m_order m_shelf m_opens (fun _ => 0) m_listed (fun _ => 0) (fun _ => 0) (fun _ => 0) (fun _ => 0) (fun _ => 0) 0 (fun _ => 0) 0 0 0) ++ ((wX6 cs ah sh al bx aw ac at_ rr ru ([]) h_size h_opened (fun _ => none) s0_row (fun _ => 0) s0_size s1_row (fun _ => 0) s1_size s2_row (fun _ => 0) s2_size s3_row (fun _ => 0) s3_size l_len (fun _ => 0) (fun _ _ => 0) (fun _ => 0) 0 0 0 0 0 0 c_row (fun _ => 0) c_size t_fac t_der t_rec t_rut t_ris) ++ [])) := va_D_perm hp9 hD3
  rw [← hw2]
  refine lv_astore_n (lv' := [(2, .ref (ad 0)), (1, .ref (ah 0)), (0, .ref b)]) hx hb dL_law_15 rfl hl (by decide) rfl (fun ls hl => ?_)
  refine lv_iconst (v := (0 : Int32)) hx hb dL_law_16 (by decide) ?_
  refine lv_istore_n (lv' := [(3, .int (0 : Int32)), (2, .ref (ad 0)), (1, .ref (ah 0)), (0, .ref b)]) hx hb dL_law_17 rfl hl (by decide) rfl (fun ls hl => ?_)
  refine W.widen (k := 1000) (n := 20000) (by decide) (by decide) ?_
  exact law_loop hx hb hml hown hts hX hbl hK hN hL hr hlocks hJ0 hJ1 hJ2 hJ3 hJ4 hJ5 hJ6 hJ7 hJ8 hJ9 hJ10 hJ11 hJ12 hJ13 hJ14 hJ15 hJ16 hJ17 hJ18 hJ19 hJ20 ah sh al bx aw ac at_ rr ru ad 512 0 1000 20000 (by omega) (by omega) (by decide) (by decide) [] h_size h_opened (fun _ => none) s0_row (fun _ => 0) s0_size s1_row (fun _ => 0) s1_size s2_row (fun _ => 0) s2_size s3_row (fun _ => 0) s3_size l_len (fun _ => 0) (fun _ _ => 0) (fun _ => 0) 0 0 0 0 0 0 c_row (fun _ => 0) c_size t_fac t_der t_rec t_rut t_ris 4 m_order m_shelf m_opens (fun _ => 0) m_listed (fun _ => 0) (fun _ => 0) (fun _ => 0) (fun _ => 0) (fun _ => 0) 0 (fun _ => 0) 0 0 0 H locs ls hJ (fun j q h => by cases h) hP hD hS (lv_sub hl [0, 3, 2, 1] rfl)
