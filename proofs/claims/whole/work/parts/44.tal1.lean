abbrev wX4p (cs : Nat → ClassId) (ax : Nat → Nat) (at_ : Nat → Nat) (ap : Nat → Nat) (yn : Nat) (y_size : Int32) (y_ord : Nat → Int64) (p_parts : Nat → Int32) (p_length : Int32) : va_W := [((ax 0), .inr (4, [.int y_size, .ref (at_ 0), .ref (ax 1)])), ((ax 1), .inl ((cs 1), yn, .inr (.inl y_ord))), ((ap 0), .inr (2, [.ref (ap 1), .int p_length])), ((ap 1), .inl ((cs 0), 18, .inl p_parts))]
def q4_fillByPartitions_97 (yn : Nat) (y_size : Int32) (t_fac : Nat → Int64) (K17 : Int32 → Int32 → Int32 → (Nat → Int64) → (Nat → Int32) → Int32 → Prop) (Q : (Nat → Int64) → (Nat → Int32) → Int32 → Prop) (x1 : Int32) (x4 : Int32) (y_ord : Nat → Int64) (p_parts : Nat → Int32) (p_length : Int32) : Prop := q2_goOn p_parts p_length (fun r1 p_parts_2 p_length_3 => K17 x1 r1 (x4 + (1 : Int32)) y_ord p_parts_2 p_length_3)
def q4_fillByPartitions_17 (yn : Nat) (y_size : Int32) (t_fac : Nat → Int64)  (Q : (Nat → Int64) → (Nat → Int32) → Int32 → Prop) : Nat → Int32 → Int32 → Int32 → (Nat → Int64) → (Nat → Int32) → Int32 → Prop
  | 0, _, _, _, _, _, _ => False
  | k17 + 1, x1, x3, x4, y_ord, p_parts, p_length => ((1000 : Int32) ≤ x4 → Q y_ord p_parts p_length) ∧ (¬ (1000 : Int32) ≤ x4 → (x3 = (0 : Int32) → Q y_ord p_parts p_length) ∧ (¬ x3 = (0 : Int32) → (¬ x1 = (6 : Int32) → q2_turns p_parts p_length   (fun r8 => q3_ordersOf t_fac  y_size (fun r9 => q2_sameRounds p_parts p_length   (fun r10 => q6_quotient   r9 r10 (fun r11 => q4_addOrders yn y_ord r8 r11 (fun y_ord_12 => q4_fillByPartitions_97 yn y_size t_fac (fun v0 v1 v2 v3 v4 v5 => q4_fillByPartitions_17 yn y_size t_fac  Q k17 v0 v1 v2 v3 v4 v5) Q x1 x4 y_ord_12 p_parts p_length)))))) ∧ (x1 = (6 : Int32) → q3_ordersOf t_fac  y_size (fun r14 => q2_hookProduct p_parts p_length   (fun r15 => q6_quotient   r14 r15 (fun r16 => q2_firstPart p_parts   (fun r17 => q4_addOrders yn y_ord r17 (r16 * r16) (fun y_ord_18 => q4_fillByPartitions_97 yn y_size t_fac (fun v0 v1 v2 v3 v4 v5 => q4_fillByPartitions_17 yn y_size t_fac  Q k17 v0 v1 v2 v3 v4 v5) Q x1 x4 y_ord_18 p_parts p_length))))))))
def q4_fillByPartitions (yn : Nat) (y_size : Int32) (t_fac : Nat → Int64) (y_ord : Nat → Int64) (p_parts : Nat → Int32) (p_length : Int32) (a1 : Int32) (Q : (Nat → Int64) → (Nat → Int32) → Int32 → Prop) : Prop := ∃ k, q4_fillByPartitions_17 yn y_size t_fac Q k a1 (1 : Int32) (0 : Int32) y_ord p_parts p_length
set_option maxHeartbeats 4000000 in
set_option maxRecDepth 100000 in
theorem c4_fillByPartitions (l : Launch) (dC : Nat → ClassId) (dI : Nat → Nat → Nat) (cs : Nat → ClassId) (ax : Nat → Nat) (at_ : Nat → Nat) (rr : Nat → Nat) (ru : Nat → Nat) (sz : Nat) (yn : Nat) (y_size : Int32) (y_ord : Nat → Int64) (t_fac : Nat → Int64) (t_der : Nat → Int64) (t_rec : Nat → Nat → Int64) (t_rut : Nat → Nat → Int64) (t_ris : Nat → Int64) (a1 : Int32) {Q : (Nat → Int64) → (Nat → Int32) → Int32 → Prop} (hq : q4_fillByPartitions yn y_size t_fac y_ord (upd (fun _ => 0) 0 y_size) (1 : Int32) a1 Q) : Met l yX4_fillByPartitions (.code yX4_fillByPartitions cX4_fillByPartitions 7 none :: gt) ({ frames := 3, cells := 2, slots := 20, locals := 73 } : Room) (va_Pc [.ref (ax 0), .int a1] (Pw2 (dC, dI) (KA cs) (wX4 cs ax at_ yn y_size y_ord) (wX3 cs at_ rr ru t_fac t_der t_rec t_rut t_ris) sz)) (va_Qv (fun u : Nat → Int64 => ∃ (p1 : Nat → Int32) (p2 : Int32), Q u p1 p2) (Bw (dC, dI) (KA cs) (va_A (wX4 cs ax at_ yn y_size y_ord) sz) (fun u : Nat → Int64 => (wX4 cs ax at_ yn y_size u))) (va_A (wX4 cs ax at_ yn y_size y_ord) sz)) 2 20 (va_A (wX4 cs ax at_ yn y_size y_ord) sz) := by
  refine Met.ofW (cc := cX4_fillByPartitions) (maxL := 7) (ret := none) (by decide) rfl ?_
  intro p e s m args below meth c s₁ B hml hv
  obtain ⟨rfl, hsz, hP0, hK, hD1, hN⟩ := hv
  have hP := va_P_l hP0
  have hO := va_P_r hP0
  have hD0 := va_D_l hD1
  have hDO := va_D_r hD1
  have hx := B.exec
  have hb := B.bytes
  have hr := B.returns
  have hts0 := atoms_spec (ws := (.code yX4_fillByPartitions cX4_fillByPartitions 7 none :: gt)) B.pre
  have hts : ∀ w ∈ gt, w.before _ s = true := fun w h => hts0 w (List.mem_cons_of_mem _ h)
  have hown : s.vm.findClass RX4 = some m.cls := findClass_of_methodNamed B.named
  have hlocks := B.notSynchronized
  subst hsz
  have hD := hD0.self (sz := s.heap.size)
  have hNA := na_of hP0 hD1
  generalize hAe : va_A (wX4 cs ax at_ yn y_size y_ord) s.heap.size = A at hD hNA ⊢
  have hA : ∀ q : Nat, s.heap.size ≤ q → A q := fun q h => by rw [← hAe]; exact Or.inr h
  have hS : va_S A s.heap s.heap [] := va_S.rf
  have hl := lv_entry ([.ref (ax 0), .int a1]) (n := 7) (Nat.le_of_ble_eq_true rfl)
  rw [lg_entry_eq]
  generalize (lg_sl ([.ref (ax 0), .int a1]) ++ List.replicate (7 - (lg_sl ([.ref (ax 0), .int a1])).length) Slot.unset).toArray = ls at hl ⊢
  have hl : lv_has ls 7 [(0, .ref (ax 0)), (1, .int a1)] := hl
  refine va_new (ci := 2) (fs := [.null, .int 0]) (C := RX2) (T := TX2) (N := 2) hx hb hts uwX2 tyX2 tyX2_ok hown (hts _ cl_X4_61) (hts _ ib_X2) (hts _ in_X2) hK hP hD hS hA rfl (fun j hj => by rcases (show j = 0 ∨ j = 1 by omega) with rfl | rfl <;> rfl) (Nat.le_of_ble_eq_true rfl) (Nat.le_of_ble_eq_true rfl) dX4_fillByPartitions_0 (fun q1 H hP hD hS => ?_)
  have hP : va_P (dC, dI) vwCl ((wX4 cs ax at_ yn y_size y_ord) ++ [(q1, .inr (2, [.null, .int 0]))]) H := hP
  have hD : va_D A ((wX4 cs ax at_ yn y_size y_ord) ++ [(q1, .inr (2, [.null, .int 0]))]) := hD
  refine lv_dup hx hb dX4_fillByPartitions_3 rfl ?_
  refine lv_aload_n hx hb dX4_fillByPartitions_4 rfl (lv_at hl 0 rfl) ?_
  refine va_get (D := (dC, dI)) (ci := 4) (v := .int y_size) (C := RX4) (T := TX4) (N := 3) hx hb hts uwX4 hown hK hP 0 rfl rfl 0 (by decide) (hts _ fl_X4_9) (fun _ h9 => h9) rfl dX4_fillByPartitions_5 ?_
  refine jwv (runI ⟨hx, hb, hml, hown, hts⟩ wi_X2_init ml_X4_63 (c2_init l dC dI cs q1 y_size _) ⟨⟨rfl, rfl⟩, by decide, by decide⟩ (preW (hP.sub (ws' := [(q1, .inr (2, [.null, .int 0]))]) [2] rfl) hK hN (hD.sub (ws' := [(q1, .inr (2, [.null, .int 0]))]) [2] (by decide) rfl)) hN rfl hl.1 rfl (Nat.le_of_ble_eq_true rfl) dX4_fillByPartitions_8 ⟨(Nat.le_of_ble_eq_true rfl), (Nat.le_of_ble_eq_true rfl)⟩) hP hD hS hA 2 3 rfl (fun ap H locs hw hP hD hS => ?_)
  subst hw
  have hP : va_P (dC, dI) vwCl (wX4p cs ax at_ ap yn y_size y_ord (upd (fun _ => 0) 0 y_size) (1 : Int32)) H := hP
  have hD : va_D A (wX4p cs ax at_ ap yn y_size y_ord (upd (fun _ => 0) 0 y_size) (1 : Int32)) := hD
  refine lv_astore_n (lv' := [(2, .ref (ap 0)), (0, .ref (ax 0)), (1, .int a1)]) hx hb dX4_fillByPartitions_11 rfl hl (by decide) rfl (fun ls hl => ?_)
  have B17 : ∀ (k17 : Nat) (x1 : Int32) (x3 : Int32) (x4 : Int32) (y_ord : Nat → Int64) (p_parts : Nat → Int32) (p_length : Int32) (H : Heap) (locs : List Loc) (ls : Array Slot), q4_fillByPartitions_17 yn y_size t_fac Q k17 x1 x3 x4 y_ord p_parts p_length → va_P (dC, dI) vwCl (wX4p cs ax at_ ap yn y_size y_ord p_parts p_length) H → va_D A (wX4p cs ax at_ ap yn y_size y_ord p_parts p_length) → va_S A s.heap H locs → lv_has ls 7 [(0, .ref (ax 0)), (1, .int x1), (2, .ref (ap 0)), (3, .int x3), (4, .int x4)] → W p l e ({ frames := 3, cells := 2, slots := 20, locals := 73 } : Room) s m ([.ref (ax 0), .int a1] : List Value).toArray below meth c H locs 2 20 (MQ below (va_Qv (fun u : Nat → Int64 => ∃ (p1 : Nat → Int32) (p2 : Int32), Q u p1 p2) (Bw (dC, dI) (KA cs) A (fun u : Nat → Int64 => (wX4 cs ax at_ yn y_size u))) A) ([.ref (ax 0), .int a1] : List Value).toArray s 2 20 A) (F0 m 17 ls []) := by
    intro k17
    induction k17 with
    | zero => intro x1 x3 x4 y_ord p_parts p_length H locs ls hq; exact False.elim hq
    | succ k17 ih17 =>
      intro x1 x3 x4 y_ord p_parts p_length H locs ls hq hP hD hS hl
      have B97 : ∀ (x1 : Int32) (x4 : Int32) (y_ord : Nat → Int64) (p_parts : Nat → Int32) (p_length : Int32) (H : Heap) (locs : List Loc) (ls : Array Slot), q4_fillByPartitions_97 yn y_size t_fac (fun v0 v1 v2 v3 v4 v5 => q4_fillByPartitions_17 yn y_size t_fac Q k17 v0 v1 v2 v3 v4 v5) Q x1 x4 y_ord p_parts p_length → va_P (dC, dI) vwCl (wX4p cs ax at_ ap yn y_size y_ord p_parts p_length) H → va_D A (wX4p cs ax at_ ap yn y_size y_ord p_parts p_length) → va_S A s.heap H locs → lv_has ls 7 [(0, .ref (ax 0)), (1, .int x1), (2, .ref (ap 0)), (4, .int x4)] → W p l e ({ frames := 3, cells := 2, slots := 20, locals := 73 } : Room) s m ([.ref (ax 0), .int a1] : List Value).toArray below meth c H locs 2 20 (MQ below (va_Qv (fun u : Nat → Int64 => ∃ (p1 : Nat → Int32) (p2 : Int32), Q u p1 p2) (Bw (dC, dI) (KA cs) A (fun u : Nat → Int64 => (wX4 cs ax at_ yn y_size u))) A) ([.ref (ax 0), .int a1] : List Value).toArray s 2 20 A) (F0 m 97 ls []) := by
        intro x1 x4 y_ord p_parts p_length H locs ls hq hP hD hS hl
        unfold q4_fillByPartitions_97 at hq
        refine lv_aload_n hx hb dX4_fillByPartitions_97 rfl (lv_at hl 2 rfl) ?_
        refine jwi (runV ⟨hx, hb, hml, hown, hts⟩ wf_X2_goOn ml_X4_91 (c2_goOn l dC dI cs ap _ p_parts p_length  hq) ⟨⟨rfl, rfl⟩, by decide, by decide⟩ (preW (hP.sub (ws' := wX2 cs ap p_parts p_length) [2, 3] rfl) hK hN (hD.sub (ws' := wX2 cs ap p_parts p_length) [2, 3] (by decide) rfl)) hK hP rfl 2 rfl rfl hl.1 rfl (Nat.le_of_ble_eq_true rfl) dX4_fillByPartitions_98 ⟨(Nat.le_of_ble_eq_true rfl), (Nat.le_of_ble_eq_true rfl)⟩) hP hD hS hA 2 4 rfl (fun r20 u23 H locs hq hP hD hS => ?_)
        obtain ⟨p_parts_21, p_length_22⟩ := u23
        try dsimp only at hq
        have hP : va_P (dC, dI) vwCl (wX4p cs ax at_ ap yn y_size y_ord p_parts_21 p_length_22) H := hP
        have hD : va_D A (wX4p cs ax at_ ap yn y_size y_ord p_parts_21 p_length_22) := hD
        refine lv_istore_n (lv' := [(3, .int r20), (0, .ref (ax 0)), (1, .int x1), (2, .ref (ap 0)), (4, .int x4)]) hx hb dX4_fillByPartitions_101 rfl hl (by decide) rfl (fun ls hl => ?_)
        refine lv_iinc (v := (x4 + (1 : Int32))) (lv' := [(4, .int (x4 + (1 : Int32))), (3, .int r20), (0, .ref (ax 0)), (1, .int x1), (2, .ref (ap 0))]) hx hb dX4_fillByPartitions_102 hl (k := 4) rfl (by rfl) (by decide) rfl (fun ls hl => ?_)
        refine lv_goto (tgt := 17) hx hb dX4_fillByPartitions_105 (by decide) ?_
        exact ih17 x1 r20 (x4 + (1 : Int32)) y_ord p_parts_21 p_length_22 _ _ _ hq hP hD hS (lv_sub hl [2, 3, 4, 1, 0] rfl)
      unfold q4_fillByPartitions_17 at hq
      refine lv_iload hx hb dX4_fillByPartitions_17 (lv_at hl 4 rfl) ?_
      refine lv_sipush (v := (1000 : Int32)) hx hb dX4_fillByPartitions_19 (by decide) ?_
      refine lv_icmp_ge (tgt := 108) hx hb dX4_fillByPartitions_22 (by decide) (fun c24 => ?_) (fun c24 => ?_)
      · have hq := hq.1 c24
        exact W.vret hx hb hr (fun t ht hW => ⟨⟨y_ord, rfl, ⟨_, _, hq⟩, Bw_mk (by rw [ht]; exact (hP.sub (ws' := wX4 cs ax at_ yn y_size y_ord) [0, 1] rfl)) (va_K.moved hW.alike hK) (hD.sub (ws' := wX4 cs ax at_ yn y_size y_ord) [0, 1] (by decide) rfl)⟩, hS.F ht⟩) hS.2.2 dX4_fillByPartitions_108
      · have hq := hq.2 c24
        refine lv_iload_n hx hb dX4_fillByPartitions_25 rfl (lv_at hl 3 rfl) ?_
        refine lv_if_eq (tgt := 108) hx hb dX4_fillByPartitions_26 (by decide) (fun c25 => ?_) (fun c25 => ?_)
        · have hq := hq.1 c25
          exact W.vret hx hb hr (fun t ht hW => ⟨⟨y_ord, rfl, ⟨_, _, hq⟩, Bw_mk (by rw [ht]; exact (hP.sub (ws' := wX4 cs ax at_ yn y_size y_ord) [0, 1] rfl)) (va_K.moved hW.alike hK) (hD.sub (ws' := wX4 cs ax at_ yn y_size y_ord) [0, 1] (by decide) rfl)⟩, hS.F ht⟩) hS.2.2 dX4_fillByPartitions_108
        · have hq := hq.2 c25
          refine lv_iload_n hx hb dX4_fillByPartitions_29 rfl (lv_at hl 1 rfl) ?_
          refine lv_bipush (v := (6 : Int32)) hx hb dX4_fillByPartitions_30 (by decide) ?_
          refine lv_icmp_ne (tgt := 71) hx hb dX4_fillByPartitions_32 (by decide) (fun c26 => ?_) (fun c26 => ?_)
          · have hq := hq.1 c26
            refine lv_aload_n hx hb dX4_fillByPartitions_71 rfl (lv_at hl 0 rfl) ?_
            refine lv_aload_n hx hb dX4_fillByPartitions_72 rfl (lv_at hl 2 rfl) ?_
            refine roi (runV ⟨hx, hb, hml, hown, hts⟩ wf_X2_turns ml_X4_85 (c2_turns l dC dI cs ap p_parts p_length  hq) ⟨⟨rfl, rfl⟩, by decide, by decide⟩ (preR (hP.sub (ws' := wX2 cs ap p_parts p_length) [2, 3] rfl) hK hN) hK hP rfl 2 rfl rfl hl.1 rfl (Nat.le_of_ble_eq_true rfl) dX4_fillByPartitions_73 ⟨(Nat.le_of_ble_eq_true rfl), (Nat.le_of_ble_eq_true rfl)⟩) (fun r27 hq => ?_)
            refine lv_aload_n hx hb dX4_fillByPartitions_76 rfl (lv_at hl 0 rfl) ?_
            refine va_get (D := (dC, dI)) (ci := 4) (v := .ref (at_ 0)) (C := RX4) (T := TX4) (N := 3) hx hb hts uwX4 hown hK hP 0 rfl rfl 1 (by decide) (hts _ fl_X4_15) (fun _ h9 => h9) rfl dX4_fillByPartitions_77 ?_
            refine lv_aload_n hx hb dX4_fillByPartitions_80 rfl (lv_at hl 0 rfl) ?_
            refine va_get (D := (dC, dI)) (ci := 4) (v := .int y_size) (C := RX4) (T := TX4) (N := 3) hx hb hts uwX4 hown hK hP 0 rfl rfl 0 (by decide) (hts _ fl_X4_9) (fun _ h9 => h9) rfl dX4_fillByPartitions_81 ?_
            refine rol (runV ⟨hx, hb, hml, hown, hts⟩ wf_X3_ordersOf ml_X4_65 (c3_ordersOf l dC dI cs at_ rr ru t_fac t_der t_rec t_rut t_ris y_size hq) ⟨⟨rfl, rfl⟩, by decide, by decide⟩ (preR (ro_at hO hNA hS) hK hN) hK (ro_at hO hNA hS) rfl 0 rfl rfl hl.1 rfl (Nat.le_of_ble_eq_true rfl) dX4_fillByPartitions_84 ⟨(Nat.le_of_ble_eq_true rfl), (Nat.le_of_ble_eq_true rfl)⟩) (fun r28 hq => ?_)
            refine lv_aload_n hx hb dX4_fillByPartitions_87 rfl (lv_at hl 2 rfl) ?_
            refine rol (runV ⟨hx, hb, hml, hown, hts⟩ wf_X2_sameRounds ml_X4_88 (c2_sameRounds l dC dI cs ap p_parts p_length  hq) ⟨⟨rfl, rfl⟩, by decide, by decide⟩ (preR (hP.sub (ws' := wX2 cs ap p_parts p_length) [2, 3] rfl) hK hN) hK hP rfl 2 rfl rfl hl.1 rfl (Nat.le_of_ble_eq_true rfl) dX4_fillByPartitions_88 ⟨(Nat.le_of_ble_eq_true rfl), (Nat.le_of_ble_eq_true rfl)⟩) (fun r29 hq => ?_)
            refine rol (runSN ⟨hx, hb, hml, hown, hts⟩ ws_X6_quotient (by decide +kernel) (c6_quotient l dC dI cs   r28 r29 hq) ⟨⟨rfl, rfl⟩, by decide, by decide⟩ (preR va_P_nil hK hN) hN rfl hl.1 rfl (Nat.le_of_ble_eq_true rfl) dX4_fillByPartitions_91 ⟨(Nat.le_of_ble_eq_true rfl), (Nat.le_of_ble_eq_true rfl)⟩) (fun r30 hq => ?_)
            refine jwv (runV ⟨hx, hb, hml, hown, hts⟩ wf_X4_addOrders ml_X4_81 (c4_addOrders l dC dI cs ax at_ rr ru _ yn y_size y_ord t_fac t_der t_rec t_rut t_ris r27 r30 hq) ⟨⟨rfl, rfl⟩, by decide, by decide⟩ (preW2 (hP.sub (ws' := wX4 cs ax at_ yn y_size y_ord) [0, 1] rfl) (ro_at hO hNA hS) hK hN (hD.sub (ws' := wX4 cs ax at_ yn y_size y_ord) [0, 1] (by decide) rfl) hDO hNA) hK hP rfl 0 rfl rfl hl.1 rfl (Nat.le_of_ble_eq_true rfl) dX4_fillByPartitions_94 ⟨(Nat.le_of_ble_eq_true rfl), (Nat.le_of_ble_eq_true rfl)⟩) hP hD hS hA 0 2 rfl (fun  y_ord_31 H locs hq hP hD hS => ?_)
            have hP : va_P (dC, dI) vwCl (wX4p cs ax at_ ap yn y_size y_ord_31 p_parts p_length) H := hP
            have hD : va_D A (wX4p cs ax at_ ap yn y_size y_ord_31 p_parts p_length) := hD
            exact B97 x1 x4 y_ord_31 p_parts p_length _ _ _ hq hP hD hS (lv_sub hl [0, 1, 2, 4] rfl)
          · have hq := hq.2 c26
            refine lv_aload_n hx hb dX4_fillByPartitions_35 rfl (lv_at hl 0 rfl) ?_
            refine va_get (D := (dC, dI)) (ci := 4) (v := .ref (at_ 0)) (C := RX4) (T := TX4) (N := 3) hx hb hts uwX4 hown hK hP 0 rfl rfl 1 (by decide) (hts _ fl_X4_15) (fun _ h9 => h9) rfl dX4_fillByPartitions_36 ?_
            refine lv_aload_n hx hb dX4_fillByPartitions_39 rfl (lv_at hl 0 rfl) ?_
            refine va_get (D := (dC, dI)) (ci := 4) (v := .int y_size) (C := RX4) (T := TX4) (N := 3) hx hb hts uwX4 hown hK hP 0 rfl rfl 0 (by decide) (hts _ fl_X4_9) (fun _ h9 => h9) rfl dX4_fillByPartitions_40 ?_
            refine rol (runV ⟨hx, hb, hml, hown, hts⟩ wf_X3_ordersOf ml_X4_65 (c3_ordersOf l dC dI cs at_ rr ru t_fac t_der t_rec t_rut t_ris y_size hq) ⟨⟨rfl, rfl⟩, by decide, by decide⟩ (preR (ro_at hO hNA hS) hK hN) hK (ro_at hO hNA hS) rfl 0 rfl rfl hl.1 rfl (Nat.le_of_ble_eq_true rfl) dX4_fillByPartitions_43 ⟨(Nat.le_of_ble_eq_true rfl), (Nat.le_of_ble_eq_true rfl)⟩) (fun r33 hq => ?_)
            refine lv_aload_n hx hb dX4_fillByPartitions_46 rfl (lv_at hl 2 rfl) ?_
            refine rol (runV ⟨hx, hb, hml, hown, hts⟩ wf_X2_hookProduct ml_X4_69 (c2_hookProduct l dC dI cs ap p_parts p_length  hq) ⟨⟨rfl, rfl⟩, by decide, by decide⟩ (preR (hP.sub (ws' := wX2 cs ap p_parts p_length) [2, 3] rfl) hK hN) hK hP rfl 2 rfl rfl hl.1 rfl (Nat.le_of_ble_eq_true rfl) dX4_fillByPartitions_47 ⟨(Nat.le_of_ble_eq_true rfl), (Nat.le_of_ble_eq_true rfl)⟩) (fun r34 hq => ?_)
            refine rol (runSN ⟨hx, hb, hml, hown, hts⟩ ws_X6_quotient (by decide +kernel) (c6_quotient l dC dI cs   r33 r34 hq) ⟨⟨rfl, rfl⟩, by decide, by decide⟩ (preR va_P_nil hK hN) hN rfl hl.1 rfl (Nat.le_of_ble_eq_true rfl) dX4_fillByPartitions_50 ⟨(Nat.le_of_ble_eq_true rfl), (Nat.le_of_ble_eq_true rfl)⟩) (fun r35 hq => ?_)
            refine lv_lstore (lv' := [(5, .long r35), (0, .ref (ax 0)), (1, .int x1), (2, .ref (ap 0)), (3, .int x3), (4, .int x4)]) hx hb dX4_fillByPartitions_53 hl (by decide) rfl (fun ls hl => ?_)
            refine lv_aload_n hx hb dX4_fillByPartitions_55 rfl (lv_at hl 1 rfl) ?_
            refine lv_aload_n hx hb dX4_fillByPartitions_56 rfl (lv_at hl 3 rfl) ?_
            refine roi (runV ⟨hx, hb, hml, hown, hts⟩ wf_X2_firstPart ml_X4_77 (c2_firstPart l dC dI cs ap p_parts p_length  hq) ⟨⟨rfl, rfl⟩, by decide, by decide⟩ (preR (hP.sub (ws' := wX2 cs ap p_parts p_length) [2, 3] rfl) hK hN) hK hP rfl 2 rfl rfl hl.1 rfl (Nat.le_of_ble_eq_true rfl) dX4_fillByPartitions_57 ⟨(Nat.le_of_ble_eq_true rfl), (Nat.le_of_ble_eq_true rfl)⟩) (fun r36 hq => ?_)
            refine lv_lload hx hb dX4_fillByPartitions_60 (lv_at hl 0 rfl) ?_
            refine lv_lload hx hb dX4_fillByPartitions_62 (lv_at hl 0 rfl) ?_
            refine lv_lmul hx hb dX4_fillByPartitions_64 ?_
            refine jwv (runV ⟨hx, hb, hml, hown, hts⟩ wf_X4_addOrders ml_X4_81 (c4_addOrders l dC dI cs ax at_ rr ru _ yn y_size y_ord t_fac t_der t_rec t_rut t_ris r36 (r35 * r35) hq) ⟨⟨rfl, rfl⟩, by decide, by decide⟩ (preW2 (hP.sub (ws' := wX4 cs ax at_ yn y_size y_ord) [0, 1] rfl) (ro_at hO hNA hS) hK hN (hD.sub (ws' := wX4 cs ax at_ yn y_size y_ord) [0, 1] (by decide) rfl) hDO hNA) hK hP rfl 0 rfl rfl hl.1 rfl (Nat.le_of_ble_eq_true rfl) dX4_fillByPartitions_65 ⟨(Nat.le_of_ble_eq_true rfl), (Nat.le_of_ble_eq_true rfl)⟩) hP hD hS hA 0 2 rfl (fun  y_ord_37 H locs hq hP hD hS => ?_)
            have hP : va_P (dC, dI) vwCl (wX4p cs ax at_ ap yn y_size y_ord_37 p_parts p_length) H := hP
            have hD : va_D A (wX4p cs ax at_ ap yn y_size y_ord_37 p_parts p_length) := hD
            refine lv_goto (tgt := 97) hx hb dX4_fillByPartitions_68 (by decide) ?_
            exact B97 x1 x4 y_ord_37 p_parts p_length _ _ _ hq hP hD hS (lv_sub hl [1, 2, 3, 5] rfl)
  unfold q4_fillByPartitions at hq
  refine lv_iconst (v := (1 : Int32)) hx hb dX4_fillByPartitions_12 (by decide) ?_
  refine lv_istore_n (lv' := [(3, .int (1 : Int32)), (2, .ref (ap 0)), (0, .ref (ax 0)), (1, .int a1)]) hx hb dX4_fillByPartitions_13 rfl hl (by decide) rfl (fun ls hl => ?_)
  refine lv_iconst (v := (0 : Int32)) hx hb dX4_fillByPartitions_14 (by decide) ?_
  refine lv_istore (lv' := [(4, .int (0 : Int32)), (3, .int (1 : Int32)), (2, .ref (ap 0)), (0, .ref (ax 0)), (1, .int a1)]) hx hb dX4_fillByPartitions_15 hl (by decide) rfl (fun ls hl => ?_)
  obtain ⟨kf, hq⟩ := hq
  exact B17 kf a1 (1 : Int32) (0 : Int32) y_ord (upd (fun _ => 0) 0 y_size) (1 : Int32) _ _ _ hq hP hD hS (lv_sub hl [3, 4, 2, 1, 0] rfl)
def q4_initB (t_fac : Nat → Int64) (t_der : Nat → Int64) (t_rec : Nat → Nat → Int64) (t_rut : Nat → Nat → Int64) (t_ris : Nat → Int64) (a1 : Int32) (a2 : Int32) (Q : Nat → (Nat → Int64) → Prop) (yn : Nat) : Prop := (a1 = (5 : Int32) → q4_fillPairsOut yn a2 (fun _ => 0)  (Q yn)) ∧ (¬ a1 = (5 : Int32) → (((a1 = (6 : Int32) ∨ a1 = (7 : Int32)) → q4_fillByPartitions yn a2 t_fac (fun _ => 0) (upd (fun _ => 0) 0 a2) (1 : Int32) a1 (fun y _ _ => Q yn y)) ∧ (¬ (a1 = (6 : Int32) ∨ a1 = (7 : Int32)) → q4_fillByTables yn a2 t_der t_rec t_rut t_ris (fun _ => 0) a1 (Q yn))))
def q4_init (t_fac : Nat → Int64) (t_der : Nat → Int64) (t_rec : Nat → Nat → Int64) (t_rut : Nat → Nat → Int64) (t_ris : Nat → Int64) (a1 : Int32) (a2 : Int32) (Q : Nat → (Nat → Int64) → Prop) : Prop := q4_greatest a1 a2 (fun r1 => ¬ (r1 + (1 : Int32)) < 0 ∧ (r1 + (1 : Int32)).toNatClampNeg ≤ 211 ∧ q4_initB t_fac t_der t_rec t_rut t_ris a1 a2 Q (r1 + (1 : Int32)).toNatClampNeg)
set_option maxHeartbeats 8000000 in
set_option maxRecDepth 100000 in
theorem c4_init (l : Launch) (dC : Nat → ClassId) (dI : Nat → Nat → Nat) (cs : Nat → ClassId) (h0 : Nat) (at_ : Nat → Nat) (rr : Nat → Nat) (ru : Nat → Nat) (sz : Nat) (t_fac : Nat → Int64) (t_der : Nat → Int64) (t_rec : Nat → Nat → Int64) (t_rut : Nat → Nat → Int64) (t_ris : Nat → Int64) (a1 : Int32) (a2 : Int32) {Q : Nat → (Nat → Int64) → Prop} (hq : q4_init t_fac t_der t_rec t_rut t_ris a1 a2 Q) : Met l yX4_init (.code yX4_init cX4_init 4 none :: gt) ({ frames := 4, cells := 3, slots := 231, locals := 99 } : Room) (va_Pc [.ref h0, .int a1, .int a2, .ref (at_ 0)] (Pw2 (dC, dI) (KA cs) [(h0, .inr (4, [.int 0, .null, .null]))] (wX3 cs at_ rr ru t_fac t_der t_rec t_rut t_ris) sz)) (va_Qv (fun u : (Nat → Nat) × Nat × (Nat → Int64) => u.1 0 = h0 ∧ Q u.2.1 u.2.2) (Bw (dC, dI) (KA cs) (va_A [(h0, .inr (4, [.int 0, .null, .null]))] sz) (fun u : (Nat → Nat) × Nat × (Nat → Int64) => (wX4 cs u.1 at_ u.2.1 a2 u.2.2))) (va_A [(h0, .inr (4, [.int 0, .null, .null]))] sz)) 3 231 (va_A [(h0, .inr (4, [.int 0, .null, .null]))] sz) := by
  refine Met.ofW (cc := cX4_init) (maxL := 4) (ret := none) (by decide) rfl ?_
  intro p e s m args below meth c s₁ B hml hv
  obtain ⟨rfl, hsz, hP0, hK, hD1, hN⟩ := hv
  have hP := va_P_l hP0
  have hO := va_P_r hP0
  have hD0 := va_D_l hD1
  have hDO := va_D_r hD1
  have hx := B.exec
  have hb := B.bytes
  have hr := B.returns
  have hts0 := atoms_spec (ws := (.code yX4_init cX4_init 4 none :: gt)) B.pre
  have hts : ∀ w ∈ gt, w.before _ s = true := fun w h => hts0 w (List.mem_cons_of_mem _ h)
  have hown : s.vm.findClass RX4 = some m.cls := findClass_of_methodNamed B.named
  have hlocks := B.notSynchronized
  have hin : meth.name = "<init>" := (name_of_methodNamed B.named B.method).1
  subst hsz
  have hD := hD0.self (sz := s.heap.size)
  have hNA := na_of hP0 hD1
  generalize hAe : va_A [(h0, .inr (4, [.int 0, .null, .null]))] s.heap.size = A at hD hNA ⊢
  have hA : ∀ q : Nat, s.heap.size ≤ q → A q := fun q h => by rw [← hAe]; exact Or.inr h
  have hS : va_S A s.heap s.heap [] := va_S.rf
  have hl := lv_entry ([.ref h0, .int a1, .int a2, .ref (at_ 0)]) (n := 4) (Nat.le_of_ble_eq_true rfl)
  rw [lg_entry_eq]
  generalize (lg_sl ([.ref h0, .int a1, .int a2, .ref (at_ 0)]) ++ List.replicate (4 - (lg_sl ([.ref h0, .int a1, .int a2, .ref (at_ 0)])).length) Slot.unset).toArray = ls at hl ⊢
  have hl : lv_has ls 4 [(0, .ref h0), (1, .int a1), (2, .int a2), (3, .ref (at_ 0))] := hl
  refine lv_aload_n hx hb dX4_init_0 rfl (lv_at hl 0 rfl) ?_
  refine W.objInit hx hb hown (hts _ ml_X4_3) (hts _ im_obj) (hts _ cw_obj) rfl (by rw [hml]; exact hl.1) rfl dX4_init_1 (Nat.le_of_ble_eq_true rfl) (Nat.le_of_ble_eq_true rfl) ?_
  refine W.eq (g2 := F0 m 4 ls []) rfl ?_
  refine lv_aload_n hx hb dX4_init_4 rfl (lv_at hl 0 rfl) ?_
  refine lv_iload_n hx hb dX4_init_5 rfl (lv_at hl 2 rfl) ?_
  refine va_putF (D := (dC, dI)) (ci := 4) (v := .int a2) (ty := .int) (C := RX4) (T := TX4) (N := 3) hx hb hts uwX4 tyX4 tyX4_ok nmX4 hown hK hP hD hS 0 rfl rfl 0 (by decide) (hts _ fl_X4_9) (fun _ h9 => h9) rfl hin rfl (by decide +kernel) rfl rfl (Nat.le_of_ble_eq_true rfl) dX4_init_6 (fun H locs hP hD hS => ?_)
  have hP : va_P (dC, dI) vwCl ([(h0, .inr (4, [.int a2, .null, .null]))]) H := hP
  have hD : va_D A ([(h0, .inr (4, [.int a2, .null, .null]))]) := hD
  refine lv_aload_n hx hb dX4_init_9 rfl (lv_at hl 0 rfl) ?_
  refine lv_aload_n hx hb dX4_init_10 rfl (lv_at hl 3 rfl) ?_
  refine va_putF (D := (dC, dI)) (ci := 4) (v := .ref (at_ 0)) (ty := .object "HundredBoxes$Tables") (C := RX4) (T := TX4) (N := 3) hx hb hts uwX4 tyX4 tyX4_ok nmX4 hown hK hP hD hS 0 rfl rfl 1 (by decide) (hts _ fl_X4_15) (fun _ h9 => h9) rfl hin rfl (by decide +kernel) rfl rfl (Nat.le_of_ble_eq_true rfl) dX4_init_11 (fun H locs hP hD hS => ?_)
  have hP : va_P (dC, dI) vwCl ([(h0, .inr (4, [.int a2, .ref (at_ 0), .null]))]) H := hP
  have hD : va_D A ([(h0, .inr (4, [.int a2, .ref (at_ 0), .null]))]) := hD
  refine lv_aload_n hx hb dX4_init_14 rfl (lv_at hl 0 rfl) ?_
  refine lv_iload_n hx hb dX4_init_15 rfl (lv_at hl 1 rfl) ?_
  refine lv_iload_n hx hb dX4_init_16 rfl (lv_at hl 2 rfl) ?_
  refine roi (runS ⟨hx, hb, hml, hown, hts⟩ ws_X4_greatest ml_X4_19 (c4_greatest l dC dI cs a1 a2 hq) ⟨⟨rfl, rfl⟩, by decide, by decide⟩ (preR va_P_nil hK hN) hN rfl hl.1 rfl (Nat.le_of_ble_eq_true rfl) dX4_init_17 ⟨(Nat.le_of_ble_eq_true rfl), (Nat.le_of_ble_eq_true rfl)⟩) (fun r1 hq => ?_)
  obtain ⟨hn1, hn2, hq⟩ := hq
  refine lv_iconst (v := (1 : Int32)) hx hb dX4_init_20 (by decide) ?_
  refine lv_iadd hx hb dX4_init_21 ?_
  generalize hyn : (r1 + (1 : Int32)).toNatClampNeg = yn at hn2 hq
  refine nwa (atype := .long) (N' := yn) (a0 := (yn, .inr (.inl (fun _ => 0)))) hx hb (hts _ ac_long) rfl (fun _ _ h => h) hK 1 rfl hP hD hS hA (fun _ => rfl) hn1 hyn (show yn * 8 ≤ 536870912 by omega) (Nat.le_of_ble_eq_true rfl) (show 0 + yn ≤ 231 by omega) dX4_init_22 (fun q1 H hP hD hS => ?_)
  have hP : va_P (dC, dI) vwCl ([(h0, .inr (4, [.int a2, .ref (at_ 0), .null]))] ++ ([(q1, .inl (cs 1, yn, .inr (.inl (fun _ => 0))))])) H := hP
  have hD : va_D A ([(h0, .inr (4, [.int a2, .ref (at_ 0), .null]))] ++ ([(q1, .inl (cs 1, yn, .inr (.inl (fun _ => 0))))])) := hD
  refine W.widen (k := 1) (n := 211) (by omega) (by omega) ?_
  refine va_putF (D := (dC, dI)) (ci := 4) (v := .ref q1) (ty := .array .long) (C := RX4) (T := TX4) (N := 3) hx hb hts uwX4 tyX4 tyX4_ok nmX4 hown hK hP hD hS 0 rfl rfl 2 (by decide) (hts _ fl_X4_23) (fun _ h9 => h9) rfl hin rfl (by decide +kernel) rfl rfl (Nat.le_of_ble_eq_true rfl) dX4_init_24 (fun H locs hP hD hS => ?_)
  have hP : va_P (dC, dI) vwCl ([(h0, .inr (4, [.int a2, .ref (at_ 0), .ref q1]))] ++ ([(q1, .inl (cs 1, yn, .inr (.inl (fun _ => 0))))])) H := hP
  have hD : va_D A ([(h0, .inr (4, [.int a2, .ref (at_ 0), .ref q1]))] ++ ([(q1, .inl (cs 1, yn, .inr (.inl (fun _ => 0))))])) := hD
  have hP : va_P (dC, dI) vwCl (wX4 cs (fun k => ([h0, q1] : List Nat).getD k 0) at_ yn a2 (fun _ => 0)) H := hP
  have hD : va_D A (wX4 cs (fun k => ([h0, q1] : List Nat).getD k 0) at_ yn a2 (fun _ => 0)) := hD
  unfold q4_initB at hq
  refine lv_iload_n hx hb dX4_init_27 rfl (lv_at hl 1 rfl) ?_
  refine lv_iconst (v := (5 : Int32)) hx hb dX4_init_28 (by decide) ?_
  refine lv_icmp_ne (tgt := 39) hx hb dX4_init_29 (by decide) (fun c1 => ?_) (fun c1 => ?_)
  · have hq := hq.2 c1
    refine lv_iload_n hx hb dX4_init_39 rfl (lv_at hl 1 rfl) ?_
    refine lv_bipush (v := (6 : Int32)) hx hb dX4_init_40 (by decide) ?_
    refine lv_icmp_eq (tgt := 51) hx hb dX4_init_42 (by decide) (fun c2 => ?_) (fun c2 => ?_)
    · have h67 := Or.inl (b := a1 = (7 : Int32)) c2
      refine lv_aload_n hx hb dX4_init_51 rfl (lv_at hl 0 rfl) ?_
      refine lv_iload_n hx hb dX4_init_52 rfl (lv_at hl 1 rfl) ?_
      refine swv (runV ⟨hx, hb, hml, hown, hts⟩ wf_X4_fillByPartitions ml_X4_30 (c4_fillByPartitions l dC dI cs (fun k => ([h0, q1] : List Nat).getD k 0) at_ rr ru _ yn a2 (fun _ => 0) t_fac t_der t_rec t_rut t_ris a1 (hq.1 h67)) ⟨⟨rfl, rfl⟩, by decide, by decide⟩ (preW2 hP (ro_at hO hNA hS) hK hN hD hDO hNA) hK hP rfl 0 rfl rfl hl.1 rfl (Nat.le_of_ble_eq_true rfl) dX4_init_53 ⟨(Nat.le_of_ble_eq_true rfl), (Nat.le_of_ble_eq_true rfl)⟩) hD hS hA (fun y1 H locs hq hP hD hS => ?_)
      obtain ⟨_, _, hq⟩ := hq
      have hP : va_P (dC, dI) vwCl (wX4 cs (fun k => ([h0, q1] : List Nat).getD k 0) at_ yn a2 y1) H := hP
      have hD : va_D A (wX4 cs (fun k => ([h0, q1] : List Nat).getD k 0) at_ yn a2 y1) := hD
      refine lv_goto (tgt := 64) hx hb dX4_init_56 (by decide) ?_
      refine W.widen (k := 3) (n := 231) (by decide) (by decide) ?_
      exact W.vret hx hb hr (fun t ht hW => ⟨⟨((fun k => ([h0, q1] : List Nat).getD k 0), yn, y1), rfl, ⟨rfl, hq⟩, Bw_mk (by rw [ht]; exact hP) (va_K.moved hW.alike hK) hD⟩, hS.F ht⟩) hS.2.2 dX4_init_64
    · refine lv_iload_n hx hb dX4_init_45 rfl (lv_at hl 1 rfl) ?_
      refine lv_bipush (v := (7 : Int32)) hx hb dX4_init_46 (by decide) ?_
      refine lv_icmp_ne (tgt := 59) hx hb dX4_init_48 (by decide) (fun c3 => ?_) (fun c3 => ?_)
      · have h67 : ¬ (a1 = (6 : Int32) ∨ a1 = (7 : Int32)) := fun h => h.elim c2 c3
        refine lv_aload_n hx hb dX4_init_59 rfl (lv_at hl 0 rfl) ?_
        refine lv_iload_n hx hb dX4_init_60 rfl (lv_at hl 1 rfl) ?_
        refine swv (runV ⟨hx, hb, hml, hown, hts⟩ wf_X4_fillByTables ml_X4_34 (c4_fillByTables l dC dI cs (fun k => ([h0, q1] : List Nat).getD k 0) at_ rr ru _ yn a2 (fun _ => 0) t_fac t_der t_rec t_rut t_ris a1 (hq.2 h67)) ⟨⟨rfl, rfl⟩, by decide, by decide⟩ (preW2 hP (ro_at hO hNA hS) hK hN hD hDO hNA) hK hP rfl 0 rfl rfl hl.1 rfl (Nat.le_of_ble_eq_true rfl) dX4_init_61 ⟨(Nat.le_of_ble_eq_true rfl), (Nat.le_of_ble_eq_true rfl)⟩) hD hS hA (fun y1 H locs hq hP hD hS => ?_)
        have hP : va_P (dC, dI) vwCl (wX4 cs (fun k => ([h0, q1] : List Nat).getD k 0) at_ yn a2 y1) H := hP
        have hD : va_D A (wX4 cs (fun k => ([h0, q1] : List Nat).getD k 0) at_ yn a2 y1) := hD
        refine W.widen (k := 3) (n := 231) (by decide) (by decide) ?_
        exact W.vret hx hb hr (fun t ht hW => ⟨⟨((fun k => ([h0, q1] : List Nat).getD k 0), yn, y1), rfl, ⟨rfl, hq⟩, Bw_mk (by rw [ht]; exact hP) (va_K.moved hW.alike hK) hD⟩, hS.F ht⟩) hS.2.2 dX4_init_64
      · have h67 := Or.inr (a := a1 = (6 : Int32)) c3
        refine lv_aload_n hx hb dX4_init_51 rfl (lv_at hl 0 rfl) ?_
        refine lv_iload_n hx hb dX4_init_52 rfl (lv_at hl 1 rfl) ?_
        refine swv (runV ⟨hx, hb, hml, hown, hts⟩ wf_X4_fillByPartitions ml_X4_30 (c4_fillByPartitions l dC dI cs (fun k => ([h0, q1] : List Nat).getD k 0) at_ rr ru _ yn a2 (fun _ => 0) t_fac t_der t_rec t_rut t_ris a1 (hq.1 h67)) ⟨⟨rfl, rfl⟩, by decide, by decide⟩ (preW2 hP (ro_at hO hNA hS) hK hN hD hDO hNA) hK hP rfl 0 rfl rfl hl.1 rfl (Nat.le_of_ble_eq_true rfl) dX4_init_53 ⟨(Nat.le_of_ble_eq_true rfl), (Nat.le_of_ble_eq_true rfl)⟩) hD hS hA (fun y1 H locs hq hP hD hS => ?_)
        obtain ⟨_, _, hq⟩ := hq
        have hP : va_P (dC, dI) vwCl (wX4 cs (fun k => ([h0, q1] : List Nat).getD k 0) at_ yn a2 y1) H := hP
        have hD : va_D A (wX4 cs (fun k => ([h0, q1] : List Nat).getD k 0) at_ yn a2 y1) := hD
        refine lv_goto (tgt := 64) hx hb dX4_init_56 (by decide) ?_
        refine W.widen (k := 3) (n := 231) (by decide) (by decide) ?_
        exact W.vret hx hb hr (fun t ht hW => ⟨⟨((fun k => ([h0, q1] : List Nat).getD k 0), yn, y1), rfl, ⟨rfl, hq⟩, Bw_mk (by rw [ht]; exact hP) (va_K.moved hW.alike hK) hD⟩, hS.F ht⟩) hS.2.2 dX4_init_64
  · have hq := hq.1 c1
    refine lv_aload_n hx hb dX4_init_32 rfl (lv_at hl 0 rfl) ?_
    refine swv (runV ⟨hx, hb, hml, hown, hts⟩ wf_X4_fillPairsOut ml_X4_27 (c4_fillPairsOut l dC dI cs (fun k => ([h0, q1] : List Nat).getD k 0) at_ rr ru _ yn a2 (fun _ => 0) t_fac t_der t_rec t_rut t_ris  hq) ⟨⟨rfl, rfl⟩, by decide, by decide⟩ (preW2 hP (ro_at hO hNA hS) hK hN hD hDO hNA) hK hP rfl 0 rfl rfl hl.1 rfl (Nat.le_of_ble_eq_true rfl) dX4_init_33 ⟨(Nat.le_of_ble_eq_true rfl), (Nat.le_of_ble_eq_true rfl)⟩) hD hS hA (fun y1 H locs hq hP hD hS => ?_)
    have hP : va_P (dC, dI) vwCl (wX4 cs (fun k => ([h0, q1] : List Nat).getD k 0) at_ yn a2 y1) H := hP
    have hD : va_D A (wX4 cs (fun k => ([h0, q1] : List Nat).getD k 0) at_ yn a2 y1) := hD
    refine lv_goto (tgt := 64) hx hb dX4_init_36 (by decide) ?_
    refine W.widen (k := 3) (n := 231) (by decide) (by decide) ?_
    exact W.vret hx hb hr (fun t ht hW => ⟨⟨((fun k => ([h0, q1] : List Nat).getD k 0), yn, y1), rfl, ⟨rfl, hq⟩, Bw_mk (by rw [ht]; exact hP) (va_K.moved hW.alike hK) hD⟩, hS.F ht⟩) hS.2.2 dX4_init_64
