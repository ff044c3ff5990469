set_option maxHeartbeats 4000000 in
set_option maxRecDepth 100000 in
theorem c7_toRounds (l : Launch) (dC : Nat → ClassId) (dI : Nat → Nat → Nat) (cs : Nat → ClassId) (ad : Nat → Nat) (sz : Nat) (m_n : Int32) (m_order : Nat → Int32) (m_shelf : Nat → Int32) (m_opens : Int32) (m_lists : Nat → Int32) (m_listed : Nat → Int32) (m_work : Nat → Int32) (m_counts : Nat → Int64) (m_older : Nat → Int64) (m_products : Nat → Int64) (m_part : Nat → Int32) (m_parts : Int32) (m_ways : Nat → Int64) (m_used : Int32) (m_greaterNow : Int32) (m_countNow : Int32) {Q : Int32 → (Nat → Int32) → (Nat → Int32) → Prop} (hq : q7_toRounds m_n m_order m_work Q) : Met l yX7_toRounds (.code yX7_toRounds cX7_toRounds 4 (some .int) :: gt) ({ frames := 1, cells := 0, slots := 0, locals := 23 } : Room) (va_Pc [.ref (ad 0)] (Pw (dC, dI) (KA cs) (wX7 cs ad m_n m_order m_shelf m_opens m_lists m_listed m_work m_counts m_older m_products m_part m_parts m_ways m_used m_greaterNow m_countNow) sz)) (va_Qi (fun (r : Int32) (u : (Nat → Int32) × (Nat → Int32)) => Q r u.1 u.2) (Bw (dC, dI) (KA cs) (va_A (wX7 cs ad m_n m_order m_shelf m_opens m_lists m_listed m_work m_counts m_older m_products m_part m_parts m_ways m_used m_greaterNow m_countNow) sz) (fun u : (Nat → Int32) × (Nat → Int32) => (wX7 cs ad m_n u.1 m_shelf m_opens m_lists m_listed u.2 m_counts m_older m_products m_part m_parts m_ways m_used m_greaterNow m_countNow))) (va_A (wX7 cs ad m_n m_order m_shelf m_opens m_lists m_listed m_work m_counts m_older m_products m_part m_parts m_ways m_used m_greaterNow m_countNow) sz)) 0 0 (va_A (wX7 cs ad m_n m_order m_shelf m_opens m_lists m_listed m_work m_counts m_older m_products m_part m_parts m_ways m_used m_greaterNow m_countNow) sz) := by
  refine Met.ofW (cc := cX7_toRounds) (maxL := 4) (ret := (some .int)) (by decide) rfl ?_
  intro p e s m args below meth c s₁ B hml hv
  obtain ⟨rfl, hsz, hP, hK, hD0, hN⟩ := hv
  have hx := B.exec
  have hb := B.bytes
  have hr := B.returns
  have hts0 := atoms_spec (ws := (.code yX7_toRounds cX7_toRounds 4 (some .int) :: gt)) B.pre
  have hts : ∀ w ∈ gt, w.before _ s = true := fun w h => hts0 w (List.mem_cons_of_mem _ h)
  have hown : s.vm.findClass RX7 = some m.cls := findClass_of_methodNamed B.named
  have hlocks := B.notSynchronized
  subst hsz
  have hD := hD0.self (sz := s.heap.size)
  generalize hAe : va_A (wX7 cs ad m_n m_order m_shelf m_opens m_lists m_listed m_work m_counts m_older m_products m_part m_parts m_ways m_used m_greaterNow m_countNow) s.heap.size = A at hD ⊢
  have hA : ∀ q : Nat, s.heap.size ≤ q → A q := fun q h => by rw [← hAe]; exact Or.inr h
  have hS : va_S A s.heap s.heap [] := va_S.rf
  have hl := lv_entry ([.ref (ad 0)]) (n := 4) (Nat.le_of_ble_eq_true rfl)
  rw [lg_entry_eq]
  generalize (lg_sl ([.ref (ad 0)]) ++ List.replicate (4 - (lg_sl ([.ref (ad 0)])).length) Slot.unset).toArray = ls at hl ⊢
  have hl : lv_has ls 4 [(0, .ref (ad 0))] := hl
  have B90 : ∀ (m_order : Nat → Int32) (m_work : Nat → Int32) (H : Heap) (locs : List Loc) (ls : Array Slot), q7_toRounds_90 m_n Q m_order m_work → va_P (dC, dI) vwCl (wX7 cs ad m_n m_order m_shelf m_opens m_lists m_listed m_work m_counts m_older m_products m_part m_parts m_ways m_used m_greaterNow m_countNow) H → va_D A (wX7 cs ad m_n m_order m_shelf m_opens m_lists m_listed m_work m_counts m_older m_products m_part m_parts m_ways m_used m_greaterNow m_countNow) → va_S A s.heap H locs → lv_has ls 4 [(0, .ref (ad 0))] → W p l e ({ frames := 1, cells := 0, slots := 0, locals := 23 } : Room) s m ([.ref (ad 0)] : List Value).toArray below meth c H locs 0 0 (MQ below (va_Qi (fun (r : Int32) (u : (Nat → Int32) × (Nat → Int32)) => Q r u.1 u.2) (Bw (dC, dI) (KA cs) A (fun u : (Nat → Int32) × (Nat → Int32) => (wX7 cs ad m_n u.1 m_shelf m_opens m_lists m_listed u.2 m_counts m_older m_products m_part m_parts m_ways m_used m_greaterNow m_countNow))) A) ([.ref (ad 0)] : List Value).toArray s 0 0 A) (F0 m 90 ls []) := by
    intro m_order m_work H locs ls hq hP hD hS hl
    unfold q7_toRounds_90 at hq
    refine lv_aload_n hx hb dX7_toRounds_90 rfl (lv_at hl 0 rfl) ?_
    refine swv (runV ⟨hx, hb, hml, hown, hts⟩ wf_X7_become ml_X7_57 (c7_become l dC dI cs ad _ m_n m_order m_shelf m_opens m_lists m_listed m_work m_counts m_older m_products m_part m_parts m_ways m_used m_greaterNow m_countNow  hq) ⟨⟨rfl, rfl⟩, by decide, by decide⟩ (preW hP hK hN hD) hK hP rfl 0 rfl rfl hl.1 rfl (Nat.le_of_ble_eq_true rfl) dX7_toRounds_91 ⟨(Nat.le_of_ble_eq_true rfl), (Nat.le_of_ble_eq_true rfl)⟩) hD hS hA (fun  m_order_14 H locs hq hP hD hS => ?_)
    have hP : va_P (dC, dI) vwCl (wX7 cs ad m_n m_order_14 m_shelf m_opens m_lists m_listed m_work m_counts m_older m_products m_part m_parts m_ways m_used m_greaterNow m_countNow) H := hP
    have hD : va_D A (wX7 cs ad m_n m_order_14 m_shelf m_opens m_lists m_listed m_work m_counts m_older m_products m_part m_parts m_ways m_used m_greaterNow m_countNow) := hD
    refine lv_iconst (v := (1 : Int32)) hx hb dX7_toRounds_94 (by decide) ?_
    exact W.iret (v := (1 : Int32)) hx hb hr (fun t ht hW => ⟨⟨(1 : Int32), (m_order_14, m_work), rfl, hq, Bw_mk (by rw [ht]; exact hP) (va_K.moved hW.alike hK) hD⟩, hS.F ht⟩) hS.2.2 dX7_toRounds_95
  have B4 : ∀ (k4 : Nat) (x1 : Int32) (x2 : Int32) (m_order : Nat → Int32) (m_work : Nat → Int32) (H : Heap) (locs : List Loc) (ls : Array Slot), q7_toRounds_4 m_n Q k4 x1 x2 m_order m_work → va_P (dC, dI) vwCl (wX7 cs ad m_n m_order m_shelf m_opens m_lists m_listed m_work m_counts m_older m_products m_part m_parts m_ways m_used m_greaterNow m_countNow) H → va_D A (wX7 cs ad m_n m_order m_shelf m_opens m_lists m_listed m_work m_counts m_older m_products m_part m_parts m_ways m_used m_greaterNow m_countNow) → va_S A s.heap H locs → lv_has ls 4 [(0, .ref (ad 0)), (1, .int x1), (2, .int x2)] → W p l e ({ frames := 1, cells := 0, slots := 0, locals := 23 } : Room) s m ([.ref (ad 0)] : List Value).toArray below meth c H locs 0 0 (MQ below (va_Qi (fun (r : Int32) (u : (Nat → Int32) × (Nat → Int32)) => Q r u.1 u.2) (Bw (dC, dI) (KA cs) A (fun u : (Nat → Int32) × (Nat → Int32) => (wX7 cs ad m_n u.1 m_shelf m_opens m_lists m_listed u.2 m_counts m_older m_products m_part m_parts m_ways m_used m_greaterNow m_countNow))) A) ([.ref (ad 0)] : List Value).toArray s 0 0 A) (F0 m 4 ls []) := by
    intro k4
    induction k4 with
    | zero => intro x1 x2 m_order m_work H locs ls hq; exact False.elim hq
    | succ k4 ih4 =>
      intro x1 x2 m_order m_work H locs ls hq hP hD hS hl
      have B83 : ∀ (s1 : Int32) (s2 : Int32) (x1 : Int32) (x2 : Int32) (m_order : Nat → Int32) (m_work : Nat → Int32) (H : Heap) (locs : List Loc) (ls : Array Slot), q7_toRounds_83 m_n (fun v0 v1 v2 v3 => q7_toRounds_4 m_n Q k4 v0 v1 v2 v3) Q s1 s2 x1 x2 m_order m_work → va_P (dC, dI) vwCl (wX7 cs ad m_n m_order m_shelf m_opens m_lists m_listed m_work m_counts m_older m_products m_part m_parts m_ways m_used m_greaterNow m_countNow) H → va_D A (wX7 cs ad m_n m_order m_shelf m_opens m_lists m_listed m_work m_counts m_older m_products m_part m_parts m_ways m_used m_greaterNow m_countNow) → va_S A s.heap H locs → lv_has ls 4 [(0, .ref (ad 0)), (1, .int x1), (2, .int x2)] → W p l e ({ frames := 1, cells := 0, slots := 0, locals := 23 } : Room) s m ([.ref (ad 0)] : List Value).toArray below meth c H locs 0 0 (MQ below (va_Qi (fun (r : Int32) (u : (Nat → Int32) × (Nat → Int32)) => Q r u.1 u.2) (Bw (dC, dI) (KA cs) A (fun u : (Nat → Int32) × (Nat → Int32) => (wX7 cs ad m_n u.1 m_shelf m_opens m_lists m_listed u.2 m_counts m_older m_products m_part m_parts m_ways m_used m_greaterNow m_countNow))) A) ([.ref (ad 0)] : List Value).toArray s 0 0 A) (F0 m 83 ls [.int s2, .int s1, .ref (ad 5)]) := by
        intro s1 s2 x1 x2 m_order m_work H locs ls hq hP hD hS hl
        unfold q7_toRounds_83 at hq
        obtain ⟨i16, hq⟩ := hq
        refine va_iast hx hb hK hP hD hS 5 0 rfl rfl i16 dX7_toRounds_83 (fun H locs hP hD hS => ?_)
        have hP : va_P (dC, dI) vwCl (wX7 cs ad m_n m_order m_shelf m_opens m_lists m_listed (upd m_work s1.toNatClampNeg s2) m_counts m_older m_products m_part m_parts m_ways m_used m_greaterNow m_countNow) H := hP
        have hD : va_D A (wX7 cs ad m_n m_order m_shelf m_opens m_lists m_listed (upd m_work s1.toNatClampNeg s2) m_counts m_older m_products m_part m_parts m_ways m_used m_greaterNow m_countNow) := hD
        refine lv_iinc (v := (x2 + (1 : Int32))) (lv' := [(2, .int (x2 + (1 : Int32))), (0, .ref (ad 0)), (1, .int x1)]) hx hb dX7_toRounds_84 hl (k := 2) rfl (by rfl) (by decide) rfl (fun ls hl => ?_)
        refine lv_goto (tgt := 4) hx hb dX7_toRounds_87 (by decide) ?_
        exact ih4 x1 (x2 + (1 : Int32)) m_order (upd m_work s1.toNatClampNeg s2) _ _ _ hq hP hD hS (lv_sub hl [1, 2, 0] rfl)
      have B56 : ∀ (s0 : Int32) (x1 : Int32) (x2 : Int32) (m_order : Nat → Int32) (m_work : Nat → Int32) (H : Heap) (locs : List Loc) (ls : Array Slot), q7_toRounds_56 m_n (fun v0 v1 v2 v3 => q7_toRounds_4 m_n Q k4 v0 v1 v2 v3) Q s0 x1 x2 m_order m_work → va_P (dC, dI) vwCl (wX7 cs ad m_n m_order m_shelf m_opens m_lists m_listed m_work m_counts m_older m_products m_part m_parts m_ways m_used m_greaterNow m_countNow) H → va_D A (wX7 cs ad m_n m_order m_shelf m_opens m_lists m_listed m_work m_counts m_older m_products m_part m_parts m_ways m_used m_greaterNow m_countNow) → va_S A s.heap H locs → lv_has ls 4 [(0, .ref (ad 0)), (1, .int x1), (2, .int x2)] → W p l e ({ frames := 1, cells := 0, slots := 0, locals := 23 } : Room) s m ([.ref (ad 0)] : List Value).toArray below meth c H locs 0 0 (MQ below (va_Qi (fun (r : Int32) (u : (Nat → Int32) × (Nat → Int32)) => Q r u.1 u.2) (Bw (dC, dI) (KA cs) A (fun u : (Nat → Int32) × (Nat → Int32) => (wX7 cs ad m_n u.1 m_shelf m_opens m_lists m_listed u.2 m_counts m_older m_products m_part m_parts m_ways m_used m_greaterNow m_countNow))) A) ([.ref (ad 0)] : List Value).toArray s 0 0 A) (F0 m 56 ls [.int s0]) := by
        intro s0 x1 x2 m_order m_work H locs ls hq hP hD hS hl
        unfold q7_toRounds_56 at hq
        refine lv_istore_n (lv' := [(3, .int s0), (0, .ref (ad 0)), (1, .int x1), (2, .int x2)]) hx hb dX7_toRounds_56 rfl hl (by decide) rfl (fun ls hl => ?_)
        refine lv_aload_n hx hb dX7_toRounds_57 rfl (lv_at hl 1 rfl) ?_
        refine va_get (D := (dC, dI)) (ci := 7) (v := .ref (ad 5)) (C := RX7) (T := TX7) (N := 16) hx hb hts uwX7 hown hK hP 0 rfl rfl 6 (by decide) (hts _ fl_X7_29) (fun _ h9 => h9) rfl dX7_toRounds_58 ?_
        refine lv_aload_n hx hb dX7_toRounds_61 rfl (lv_at hl 1 rfl) ?_
        refine va_get (D := (dC, dI)) (ci := 7) (v := .ref (ad 1)) (C := RX7) (T := TX7) (N := 16) hx hb hts uwX7 hown hK hP 0 rfl rfl 1 (by decide) (hts _ fl_X7_13) (fun _ h9 => h9) rfl dX7_toRounds_62 ?_
        refine lv_iload_n hx hb dX7_toRounds_65 rfl (lv_at hl 3 rfl) ?_
        obtain ⟨i17, hq⟩ := hq
        refine va_iald hx hb hK hP 1 0 rfl rfl i17 dX7_toRounds_66 ?_
        refine lv_iload_n hx hb dX7_toRounds_67 rfl (lv_at hl 0 rfl) ?_
        refine lv_if_eq (tgt := 75) hx hb dX7_toRounds_68 (by decide) (fun c18 => ?_) (fun c18 => ?_)
        · have hq := hq.1 c18
          refine lv_aload_n hx hb dX7_toRounds_75 rfl (lv_at hl 1 rfl) ?_
          refine va_get (D := (dC, dI)) (ci := 7) (v := .ref (ad 1)) (C := RX7) (T := TX7) (N := 16) hx hb hts uwX7 hown hK hP 0 rfl rfl 1 (by decide) (hts _ fl_X7_13) (fun _ h9 => h9) rfl dX7_toRounds_76 ?_
          refine lv_iload_n hx hb dX7_toRounds_79 rfl (lv_at hl 3 rfl) ?_
          refine lv_iconst (v := (1 : Int32)) hx hb dX7_toRounds_80 (by decide) ?_
          refine lv_iadd hx hb dX7_toRounds_81 ?_
          obtain ⟨i19, hq⟩ := hq
          refine va_iald hx hb hK hP 1 0 rfl rfl i19 dX7_toRounds_82 ?_
          exact B83 (m_order x2.toNatClampNeg) (m_order (x2 + (1 : Int32)).toNatClampNeg) x1 x2 m_order m_work _ _ _ hq hP hD hS (lv_sub hl [1, 2, 3] rfl)
        · have hq := hq.2 c18
          refine lv_iload_n hx hb dX7_toRounds_71 rfl (lv_at hl 2 rfl) ?_
          refine lv_goto (tgt := 83) hx hb dX7_toRounds_72 (by decide) ?_
          exact B83 (m_order x2.toNatClampNeg) x1 x1 x2 m_order m_work _ _ _ hq hP hD hS (lv_sub hl [1, 2, 3] rfl)
      have B30 : ∀ (s0 : Int32) (x2 : Int32) (m_order : Nat → Int32) (m_work : Nat → Int32) (H : Heap) (locs : List Loc) (ls : Array Slot), q7_toRounds_30 m_n (fun v0 v1 v2 v3 => q7_toRounds_4 m_n Q k4 v0 v1 v2 v3) Q s0 x2 m_order m_work → va_P (dC, dI) vwCl (wX7 cs ad m_n m_order m_shelf m_opens m_lists m_listed m_work m_counts m_older m_products m_part m_parts m_ways m_used m_greaterNow m_countNow) H → va_D A (wX7 cs ad m_n m_order m_shelf m_opens m_lists m_listed m_work m_counts m_older m_products m_part m_parts m_ways m_used m_greaterNow m_countNow) → va_S A s.heap H locs → lv_has ls 4 [(0, .ref (ad 0)), (2, .int x2)] → W p l e ({ frames := 1, cells := 0, slots := 0, locals := 23 } : Room) s m ([.ref (ad 0)] : List Value).toArray below meth c H locs 0 0 (MQ below (va_Qi (fun (r : Int32) (u : (Nat → Int32) × (Nat → Int32)) => Q r u.1 u.2) (Bw (dC, dI) (KA cs) A (fun u : (Nat → Int32) × (Nat → Int32) => (wX7 cs ad m_n u.1 m_shelf m_opens m_lists m_listed u.2 m_counts m_older m_products m_part m_parts m_ways m_used m_greaterNow m_countNow))) A) ([.ref (ad 0)] : List Value).toArray s 0 0 A) (F0 m 30 ls [.int s0]) := by
        intro s0 x2 m_order m_work H locs ls hq hP hD hS hl
        unfold q7_toRounds_30 at hq
        refine lv_istore_n (lv' := [(1, .int s0), (0, .ref (ad 0)), (2, .int x2)]) hx hb dX7_toRounds_30 rfl hl (by decide) rfl (fun ls hl => ?_)
        refine lv_iload_n hx hb dX7_toRounds_31 rfl (lv_at hl 2 rfl) ?_
        refine lv_aload_n hx hb dX7_toRounds_32 rfl (lv_at hl 1 rfl) ?_
        refine va_get (D := (dC, dI)) (ci := 7) (v := .int m_n) (C := RX7) (T := TX7) (N := 16) hx hb hts uwX7 hown hK hP 0 rfl rfl 0 (by decide) (hts _ fl_X7_7) (fun _ h9 => h9) rfl dX7_toRounds_33 ?_
        refine lv_iconst (v := (1 : Int32)) hx hb dX7_toRounds_36 (by decide) ?_
        refine lv_isub hx hb dX7_toRounds_37 ?_
        refine lv_icmp_eq (tgt := 51) hx hb dX7_toRounds_38 (by decide) (fun c20 => ?_) (fun c20 => ?_)
        · have hq := hq.1 c20
          refine lv_iconst (v := (1 : Int32)) hx hb dX7_toRounds_51 (by decide) ?_
          refine lv_goto (tgt := 56) hx hb dX7_toRounds_52 (by decide) ?_
          exact B56 (1 : Int32) s0 x2 m_order m_work _ _ _ hq hP hD hS (lv_sub hl [1, 0, 2] rfl)
        · have hq := hq.2 c20
          refine lv_aload_n hx hb dX7_toRounds_41 rfl (lv_at hl 1 rfl) ?_
          refine lv_iload_n hx hb dX7_toRounds_42 rfl (lv_at hl 2 rfl) ?_
          refine lv_iconst (v := (1 : Int32)) hx hb dX7_toRounds_43 (by decide) ?_
          refine lv_iadd hx hb dX7_toRounds_44 ?_
          refine roi (runV ⟨hx, hb, hml, hown, hts⟩ wf_X7_isRecord ml_X7_77 (c7_isRecord l dC dI cs ad m_n m_order m_shelf m_opens m_lists m_listed m_work m_counts m_older m_products m_part m_parts m_ways m_used m_greaterNow m_countNow (x2 + (1 : Int32)) hq) ⟨⟨rfl, rfl⟩, by decide, by decide⟩ (preR hP hK hN) hK hP rfl 0 rfl rfl hl.1 rfl (Nat.le_of_ble_eq_true rfl) dX7_toRounds_45 ⟨(Nat.le_of_ble_eq_true rfl), (Nat.le_of_ble_eq_true rfl)⟩) (fun r21 hq => ?_)
          refine lv_if_eq (tgt := 55) hx hb dX7_toRounds_48 (by decide) (fun c22 => ?_) (fun c22 => ?_)
          · have hq := hq.1 c22
            refine lv_iconst (v := (0 : Int32)) hx hb dX7_toRounds_55 (by decide) ?_
            exact B56 (0 : Int32) s0 x2 m_order m_work _ _ _ hq hP hD hS (lv_sub hl [1, 0, 2] rfl)
          · have hq := hq.2 c22
            refine lv_iconst (v := (1 : Int32)) hx hb dX7_toRounds_51 (by decide) ?_
            refine lv_goto (tgt := 56) hx hb dX7_toRounds_52 (by decide) ?_
            exact B56 (1 : Int32) s0 x2 m_order m_work _ _ _ hq hP hD hS (lv_sub hl [1, 0, 2] rfl)
      unfold q7_toRounds_4 at hq
      refine lv_iload_n hx hb dX7_toRounds_4 rfl (lv_at hl 2 rfl) ?_
      refine lv_aload_n hx hb dX7_toRounds_5 rfl (lv_at hl 0 rfl) ?_
      refine va_get (D := (dC, dI)) (ci := 7) (v := .int m_n) (C := RX7) (T := TX7) (N := 16) hx hb hts uwX7 hown hK hP 0 rfl rfl 0 (by decide) (hts _ fl_X7_7) (fun _ h9 => h9) rfl dX7_toRounds_6 ?_
      refine lv_icmp_ge (tgt := 90) hx hb dX7_toRounds_9 (by decide) (fun c23 => ?_) (fun c23 => ?_)
      · have hq := hq.1 c23
        exact B90 m_order m_work _ _ _ hq hP hD hS (lv_sub hl [0] rfl)
      · have hq := hq.2 c23
        refine lv_aload_n hx hb dX7_toRounds_12 rfl (lv_at hl 0 rfl) ?_
        refine lv_iload_n hx hb dX7_toRounds_13 rfl (lv_at hl 2 rfl) ?_
        refine roi (runV ⟨hx, hb, hml, hown, hts⟩ wf_X7_isRecord ml_X7_77 (c7_isRecord l dC dI cs ad m_n m_order m_shelf m_opens m_lists m_listed m_work m_counts m_older m_products m_part m_parts m_ways m_used m_greaterNow m_countNow x2 hq) ⟨⟨rfl, rfl⟩, by decide, by decide⟩ (preR hP hK hN) hK hP rfl 0 rfl rfl hl.1 rfl (Nat.le_of_ble_eq_true rfl) dX7_toRounds_14 ⟨(Nat.le_of_ble_eq_true rfl), (Nat.le_of_ble_eq_true rfl)⟩) (fun r24 hq => ?_)
        refine lv_if_eq (tgt := 29) hx hb dX7_toRounds_17 (by decide) (fun c25 => ?_) (fun c25 => ?_)
        · have hq := hq.1 c25
          refine lv_iload_n hx hb dX7_toRounds_29 rfl (lv_at hl 1 rfl) ?_
          exact B30 x1 x2 m_order m_work _ _ _ hq hP hD hS (lv_sub hl [0, 2] rfl)
        · have hq := hq.2 c25
          refine lv_aload_n hx hb dX7_toRounds_20 rfl (lv_at hl 0 rfl) ?_
          refine va_get (D := (dC, dI)) (ci := 7) (v := .ref (ad 1)) (C := RX7) (T := TX7) (N := 16) hx hb hts uwX7 hown hK hP 0 rfl rfl 1 (by decide) (hts _ fl_X7_13) (fun _ h9 => h9) rfl dX7_toRounds_21 ?_
          refine lv_iload_n hx hb dX7_toRounds_24 rfl (lv_at hl 2 rfl) ?_
          obtain ⟨i26, hq⟩ := hq
          refine va_iald hx hb hK hP 1 0 rfl rfl i26 dX7_toRounds_25 ?_
          refine lv_goto (tgt := 30) hx hb dX7_toRounds_26 (by decide) ?_
          exact B30 (m_order x2.toNatClampNeg) x2 m_order m_work _ _ _ hq hP hD hS (lv_sub hl [0, 2] rfl)
  unfold q7_toRounds at hq
  refine lv_iconst (v := (0 : Int32)) hx hb dX7_toRounds_0 (by decide) ?_
  refine lv_istore_n (lv' := [(1, .int (0 : Int32)), (0, .ref (ad 0))]) hx hb dX7_toRounds_1 rfl hl (by decide) rfl (fun ls hl => ?_)
  refine lv_iconst (v := (0 : Int32)) hx hb dX7_toRounds_2 (by decide) ?_
  refine lv_istore_n (lv' := [(2, .int (0 : Int32)), (1, .int (0 : Int32)), (0, .ref (ad 0))]) hx hb dX7_toRounds_3 rfl hl (by decide) rfl (fun ls hl => ?_)
  obtain ⟨kf, hq⟩ := hq
  exact B4 kf (0 : Int32) (0 : Int32) m_order m_work _ _ _ hq hP hD hS (lv_sub hl [2, 1, 0] rfl)
set_option maxHeartbeats 4000000 in
set_option maxRecDepth 100000 in
theorem c7_isGreatest (l : Launch) (dC : Nat → ClassId) (dI : Nat → Nat → Nat) (cs : Nat → ClassId) (ad : Nat → Nat) (m_n : Int32) (m_order : Nat → Int32) (m_shelf : Nat → Int32) (m_opens : Int32) (m_lists : Nat → Int32) (m_listed : Nat → Int32) (m_work : Nat → Int32) (m_counts : Nat → Int64) (m_older : Nat → Int64) (m_products : Nat → Int64) (m_part : Nat → Int32) (m_parts : Int32) (m_ways : Nat → Int64) (m_used : Int32) (m_greaterNow : Int32) (m_countNow : Int32) (a1 : Int32) {Q : Int32 → Prop} (hq : q7_isGreatest m_order a1 Q) : Met l yX7_isGreatest (.code yX7_isGreatest cX7_isGreatest 4 (some .boolean) :: gt) ({ frames := 0, cells := 0, slots := 0, locals := 0 } : Room) (va_Pc [.ref (ad 0), .int a1] (Pr (dC, dI) (KA cs) (wX7 cs ad m_n m_order m_shelf m_opens m_lists m_listed m_work m_counts m_older m_products m_part m_parts m_ways m_used m_greaterNow m_countNow))) (vp_Si Q) 0 0 (fun _ => False) := by
  refine Met.ofW (cc := cX7_isGreatest) (maxL := 4) (ret := (some .boolean)) (by decide) rfl ?_
  intro p e s m args below meth c s₁ B hml hv
  obtain ⟨rfl, hP, hK, hN⟩ := hv
  have hx := B.exec
  have hb := B.bytes
  have hr := B.returns
  have hts0 := atoms_spec (ws := (.code yX7_isGreatest cX7_isGreatest 4 (some .boolean) :: gt)) B.pre
  have hts : ∀ w ∈ gt, w.before _ s = true := fun w h => hts0 w (List.mem_cons_of_mem _ h)
  have hown : s.vm.findClass RX7 = some m.cls := findClass_of_methodNamed B.named
  have hlocks := B.notSynchronized
  have hl := lv_entry ([.ref (ad 0), .int a1]) (n := 4) (Nat.le_of_ble_eq_true rfl)
  rw [lg_entry_eq]
  generalize (lg_sl ([.ref (ad 0), .int a1]) ++ List.replicate (4 - (lg_sl ([.ref (ad 0), .int a1])).length) Slot.unset).toArray = ls at hl ⊢
  have hl : lv_has ls 4 [(0, .ref (ad 0)), (1, .int a1)] := hl
  have B9 : ∀ (k9 : Nat) (x1 : Int32) (x2 : Int32) (x3 : Int32) (ls : Array Slot), q7_isGreatest_9 m_order Q k9 x1 x2 x3 → lv_has ls 4 [(0, .ref (ad 0)), (1, .int x1), (2, .int x2), (3, .int x3)] → W p l e ({ frames := 0, cells := 0, slots := 0, locals := 0 } : Room) s m ([.ref (ad 0), .int a1] : List Value).toArray below meth c s.heap [] 0 0 (MQ below (vp_Si Q) ([.ref (ad 0), .int a1] : List Value).toArray s 0 0 (fun _ => False)) (F0 m 9 ls []) := by
    intro k9
    induction k9 with
    | zero => intro x1 x2 x3 ls hq; exact False.elim hq
    | succ k9 ih9 =>
      intro x1 x2 x3 ls hq hl
      have B28 : ∀ (s0 : Int32) (x1 : Int32) (x3 : Int32) (ls : Array Slot), q7_isGreatest_28 m_order (fun v0 v1 v2 => q7_isGreatest_9 m_order Q k9 v0 v1 v2) Q s0 x1 x3 → lv_has ls 4 [(0, .ref (ad 0)), (1, .int x1), (3, .int x3)] → W p l e ({ frames := 0, cells := 0, slots := 0, locals := 0 } : Room) s m ([.ref (ad 0), .int a1] : List Value).toArray below meth c s.heap [] 0 0 (MQ below (vp_Si Q) ([.ref (ad 0), .int a1] : List Value).toArray s 0 0 (fun _ => False)) (F0 m 28 ls [.int s0]) := by
        intro s0 x1 x3 ls hq hl
        unfold q7_isGreatest_28 at hq
        refine lv_istore_n (lv' := [(2, .int s0), (0, .ref (ad 0)), (1, .int x1), (3, .int x3)]) hx hb dX7_isGreatest_28 rfl hl (by decide) rfl (fun ls hl => ?_)
        refine lv_aload_n hx hb dX7_isGreatest_29 rfl (lv_at hl 1 rfl) ?_
        refine va_get (D := (dC, dI)) (ci := 7) (v := .ref (ad 1)) (C := RX7) (T := TX7) (N := 16) hx hb hts uwX7 hown hK hP 0 rfl rfl 1 (by decide) (hts _ fl_X7_13) (fun _ h9 => h9) rfl dX7_isGreatest_30 ?_
        refine lv_iload_n hx hb dX7_isGreatest_33 rfl (lv_at hl 3 rfl) ?_
        obtain ⟨i6, hq⟩ := hq
        refine va_iald hx hb hK hP 1 0 rfl rfl i6 dX7_isGreatest_34 ?_
        refine lv_istore_n (lv' := [(3, .int (m_order x3.toNatClampNeg)), (2, .int s0), (0, .ref (ad 0)), (1, .int x1)]) hx hb dX7_isGreatest_35 rfl hl (by decide) rfl (fun ls hl => ?_)
        refine lv_goto (tgt := 9) hx hb dX7_isGreatest_36 (by decide) ?_
        exact ih9 x1 s0 (m_order x3.toNatClampNeg) _ hq (lv_sub hl [2, 3, 1, 0] rfl)
      unfold q7_isGreatest_9 at hq
      refine lv_iload_n hx hb dX7_isGreatest_9 rfl (lv_at hl 3 rfl) ?_
      refine lv_iload_n hx hb dX7_isGreatest_10 rfl (lv_at hl 1 rfl) ?_
      refine lv_icmp_eq (tgt := 39) hx hb dX7_isGreatest_11 (by decide) (fun c7 => ?_) (fun c7 => ?_)
      · have hq := hq.1 c7
        refine lv_iload_n hx hb dX7_isGreatest_39 rfl (lv_at hl 2 rfl) ?_
        obtain ⟨zb, hq⟩ := hq
        exact W.zret (ty := .boolean) (v := x2) hx hb hr (by rcases zb with h9 | h9 <;> rw [h9] <;> rfl) (fun t ht hW => ⟨x2, rfl, hq, ht⟩) (fun q h => absurd h List.not_mem_nil) dX7_isGreatest_40
      · have hq := hq.2 c7
        refine lv_iload_n hx hb dX7_isGreatest_14 rfl (lv_at hl 2 rfl) ?_
        refine lv_if_eq (tgt := 27) hx hb dX7_isGreatest_15 (by decide) (fun c8 => ?_) (fun c8 => ?_)
        · have hq := hq.1 c8
          refine lv_iconst (v := (0 : Int32)) hx hb dX7_isGreatest_27 (by decide) ?_
          exact B28 (0 : Int32) x1 x3 _ hq (lv_sub hl [0, 1, 3] rfl)
        · have hq := hq.2 c8
          refine lv_iload_n hx hb dX7_isGreatest_18 rfl (lv_at hl 3 rfl) ?_
          refine lv_iload_n hx hb dX7_isGreatest_19 rfl (lv_at hl 1 rfl) ?_
          refine lv_icmp_ge (tgt := 27) hx hb dX7_isGreatest_20 (by decide) (fun c9 => ?_) (fun c9 => ?_)
          · have hq := hq.1 c9
            refine lv_iconst (v := (0 : Int32)) hx hb dX7_isGreatest_27 (by decide) ?_
            exact B28 (0 : Int32) x1 x3 _ hq (lv_sub hl [0, 1, 3] rfl)
          · have hq := hq.2 c9
            refine lv_iconst (v := (1 : Int32)) hx hb dX7_isGreatest_23 (by decide) ?_
            refine lv_goto (tgt := 28) hx hb dX7_isGreatest_24 (by decide) ?_
            exact B28 (1 : Int32) x1 x3 _ hq (lv_sub hl [0, 1, 3] rfl)
  unfold q7_isGreatest at hq
  refine lv_iconst (v := (1 : Int32)) hx hb dX7_isGreatest_0 (by decide) ?_
  refine lv_istore_n (lv' := [(2, .int (1 : Int32)), (0, .ref (ad 0)), (1, .int a1)]) hx hb dX7_isGreatest_1 rfl hl (by decide) rfl (fun ls hl => ?_)
  refine lv_aload_n hx hb dX7_isGreatest_2 rfl (lv_at hl 1 rfl) ?_
  refine va_get (D := (dC, dI)) (ci := 7) (v := .ref (ad 1)) (C := RX7) (T := TX7) (N := 16) hx hb hts uwX7 hown hK hP 0 rfl rfl 1 (by decide) (hts _ fl_X7_13) (fun _ h9 => h9) rfl dX7_isGreatest_3 ?_
  refine lv_iload_n hx hb dX7_isGreatest_6 rfl (lv_at hl 2 rfl) ?_
  obtain ⟨i10, hq⟩ := hq
  refine va_iald hx hb hK hP 1 0 rfl rfl i10 dX7_isGreatest_7 ?_
  refine lv_istore_n (lv' := [(3, .int (m_order a1.toNatClampNeg)), (2, .int (1 : Int32)), (0, .ref (ad 0)), (1, .int a1)]) hx hb dX7_isGreatest_8 rfl hl (by decide) rfl (fun ls hl => ?_)
  obtain ⟨kf, hq⟩ := hq
  exact B9 kf a1 (1 : Int32) (m_order a1.toNatClampNeg) _ hq (lv_sub hl [2, 3, 1, 0] rfl)
set_option maxHeartbeats 4000000 in
set_option maxRecDepth 100000 in
theorem c7_toRecords (l : Launch) (dC : Nat → ClassId) (dI : Nat → Nat → Nat) (cs : Nat → ClassId) (ad : Nat → Nat) (sz : Nat) (m_n : Int32) (m_order : Nat → Int32) (m_shelf : Nat → Int32) (m_opens : Int32) (m_lists : Nat → Int32) (m_listed : Nat → Int32) (m_work : Nat → Int32) (m_counts : Nat → Int64) (m_older : Nat → Int64) (m_products : Nat → Int64) (m_part : Nat → Int32) (m_parts : Int32) (m_ways : Nat → Int64) (m_used : Int32) (m_greaterNow : Int32) (m_countNow : Int32) {Q : Int32 → (Nat → Int32) → (Nat → Int32) → Prop} (hq : q7_toRecords m_n m_order m_work Q) : Met l yX7_toRecords (.code yX7_toRecords cX7_toRecords 6 (some .int) :: gt) ({ frames := 1, cells := 0, slots := 0, locals := 23 } : Room) (va_Pc [.ref (ad 0)] (Pw (dC, dI) (KA cs) (wX7 cs ad m_n m_order m_shelf m_opens m_lists m_listed m_work m_counts m_older m_products m_part m_parts m_ways m_used m_greaterNow m_countNow) sz)) (va_Qi (fun (r : Int32) (u : (Nat → Int32) × (Nat → Int32)) => Q r u.1 u.2) (Bw (dC, dI) (KA cs) (va_A (wX7 cs ad m_n m_order m_shelf m_opens m_lists m_listed m_work m_counts m_older m_products m_part m_parts m_ways m_used m_greaterNow m_countNow) sz) (fun u : (Nat → Int32) × (Nat → Int32) => (wX7 cs ad m_n u.1 m_shelf m_opens m_lists m_listed u.2 m_counts m_older m_products m_part m_parts m_ways m_used m_greaterNow m_countNow))) (va_A (wX7 cs ad m_n m_order m_shelf m_opens m_lists m_listed m_work m_counts m_older m_products m_part m_parts m_ways m_used m_greaterNow m_countNow) sz)) 0 0 (va_A (wX7 cs ad m_n m_order m_shelf m_opens m_lists m_listed m_work m_counts m_older m_products m_part m_parts m_ways m_used m_greaterNow m_countNow) sz) := by
  refine Met.ofW (cc := cX7_toRecords) (maxL := 6) (ret := (some .int)) (by decide) rfl ?_
  intro p e s m args below meth c s₁ B hml hv
  obtain ⟨rfl, hsz, hP, hK, hD0, hN⟩ := hv
  have hx := B.exec
  have hb := B.bytes
  have hr := B.returns
  have hts0 := atoms_spec (ws := (.code yX7_toRecords cX7_toRecords 6 (some .int) :: gt)) B.pre
  have hts : ∀ w ∈ gt, w.before _ s = true := fun w h => hts0 w (List.mem_cons_of_mem _ h)
  have hown : s.vm.findClass RX7 = some m.cls := findClass_of_methodNamed B.named
  have hlocks := B.notSynchronized
  subst hsz
  have hD := hD0.self (sz := s.heap.size)
  generalize hAe : va_A (wX7 cs ad m_n m_order m_shelf m_opens m_lists m_listed m_work m_counts m_older m_products m_part m_parts m_ways m_used m_greaterNow m_countNow) s.heap.size = A at hD ⊢
  have hA : ∀ q : Nat, s.heap.size ≤ q → A q := fun q h => by rw [← hAe]; exact Or.inr h
  have hS : va_S A s.heap s.heap [] := va_S.rf
  have hl := lv_entry ([.ref (ad 0)]) (n := 6) (Nat.le_of_ble_eq_true rfl)
  rw [lg_entry_eq]
  generalize (lg_sl ([.ref (ad 0)]) ++ List.replicate (6 - (lg_sl ([.ref (ad 0)])).length) Slot.unset).toArray = ls at hl ⊢
  have hl : lv_has ls 6 [(0, .ref (ad 0))] := hl
  have B68 : ∀ (m_order : Nat → Int32) (m_work : Nat → Int32) (H : Heap) (locs : List Loc) (ls : Array Slot), q7_toRecords_68 m_n Q m_order m_work → va_P (dC, dI) vwCl (wX7 cs ad m_n m_order m_shelf m_opens m_lists m_listed m_work m_counts m_older m_products m_part m_parts m_ways m_used m_greaterNow m_countNow) H → va_D A (wX7 cs ad m_n m_order m_shelf m_opens m_lists m_listed m_work m_counts m_older m_products m_part m_parts m_ways m_used m_greaterNow m_countNow) → va_S A s.heap H locs → lv_has ls 6 [(0, .ref (ad 0))] → W p l e ({ frames := 1, cells := 0, slots := 0, locals := 23 } : Room) s m ([.ref (ad 0)] : List Value).toArray below meth c H locs 0 0 (MQ below (va_Qi (fun (r : Int32) (u : (Nat → Int32) × (Nat → Int32)) => Q r u.1 u.2) (Bw (dC, dI) (KA cs) A (fun u : (Nat → Int32) × (Nat → Int32) => (wX7 cs ad m_n u.1 m_shelf m_opens m_lists m_listed u.2 m_counts m_older m_products m_part m_parts m_ways m_used m_greaterNow m_countNow))) A) ([.ref (ad 0)] : List Value).toArray s 0 0 A) (F0 m 68 ls []) := by
    intro m_order m_work H locs ls hq hP hD hS hl
    unfold q7_toRecords_68 at hq
    refine lv_aload_n hx hb dX7_toRecords_68 rfl (lv_at hl 0 rfl) ?_
    refine swv (runV ⟨hx, hb, hml, hown, hts⟩ wf_X7_become ml_X7_57 (c7_become l dC dI cs ad _ m_n m_order m_shelf m_opens m_lists m_listed m_work m_counts m_older m_products m_part m_parts m_ways m_used m_greaterNow m_countNow  hq) ⟨⟨rfl, rfl⟩, by decide, by decide⟩ (preW hP hK hN hD) hK hP rfl 0 rfl rfl hl.1 rfl (Nat.le_of_ble_eq_true rfl) dX7_toRecords_69 ⟨(Nat.le_of_ble_eq_true rfl), (Nat.le_of_ble_eq_true rfl)⟩) hD hS hA (fun  m_order_10 H locs hq hP hD hS => ?_)
    have hP : va_P (dC, dI) vwCl (wX7 cs ad m_n m_order_10 m_shelf m_opens m_lists m_listed m_work m_counts m_older m_products m_part m_parts m_ways m_used m_greaterNow m_countNow) H := hP
    have hD : va_D A (wX7 cs ad m_n m_order_10 m_shelf m_opens m_lists m_listed m_work m_counts m_older m_products m_part m_parts m_ways m_used m_greaterNow m_countNow) := hD
    refine lv_iconst (v := (1 : Int32)) hx hb dX7_toRecords_72 (by decide) ?_
    exact W.iret (v := (1 : Int32)) hx hb hr (fun t ht hW => ⟨⟨(1 : Int32), (m_order_10, m_work), rfl, hq, Bw_mk (by rw [ht]; exact hP) (va_K.moved hW.alike hK) hD⟩, hS.F ht⟩) hS.2.2 dX7_toRecords_73
  have B4 : ∀ (k4 : Nat) (x1 : Int32) (x2 : Int32) (m_order : Nat → Int32) (m_work : Nat → Int32) (H : Heap) (locs : List Loc) (ls : Array Slot), q7_toRecords_4 m_n Q k4 x1 x2 m_order m_work → va_P (dC, dI) vwCl (wX7 cs ad m_n m_order m_shelf m_opens m_lists m_listed m_work m_counts m_older m_products m_part m_parts m_ways m_used m_greaterNow m_countNow) H → va_D A (wX7 cs ad m_n m_order m_shelf m_opens m_lists m_listed m_work m_counts m_older m_products m_part m_parts m_ways m_used m_greaterNow m_countNow) → va_S A s.heap H locs → lv_has ls 6 [(0, .ref (ad 0)), (1, .int x1), (2, .int x2)] → W p l e ({ frames := 1, cells := 0, slots := 0, locals := 23 } : Room) s m ([.ref (ad 0)] : List Value).toArray below meth c H locs 0 0 (MQ below (va_Qi (fun (r : Int32) (u : (Nat → Int32) × (Nat → Int32)) => Q r u.1 u.2) (Bw (dC, dI) (KA cs) A (fun u : (Nat → Int32) × (Nat → Int32) => (wX7 cs ad m_n u.1 m_shelf m_opens m_lists m_listed u.2 m_counts m_older m_products m_part m_parts m_ways m_used m_greaterNow m_countNow))) A) ([.ref (ad 0)] : List Value).toArray s 0 0 A) (F0 m 4 ls []) := by
    intro k4
    induction k4 with
    | zero => intro x1 x2 m_order m_work H locs ls hq; exact False.elim hq
    | succ k4 ih4 =>
      intro x1 x2 m_order m_work H locs ls hq hP hD hS hl
      have B62 : ∀ (x1 : Int32) (x2 : Int32) (m_order : Nat → Int32) (m_work : Nat → Int32) (H : Heap) (locs : List Loc) (ls : Array Slot), q7_toRecords_62 m_n (fun v0 v1 v2 v3 => q7_toRecords_4 m_n Q k4 v0 v1 v2 v3) Q x1 x2 m_order m_work → va_P (dC, dI) vwCl (wX7 cs ad m_n m_order m_shelf m_opens m_lists m_listed m_work m_counts m_older m_products m_part m_parts m_ways m_used m_greaterNow m_countNow) H → va_D A (wX7 cs ad m_n m_order m_shelf m_opens m_lists m_listed m_work m_counts m_older m_products m_part m_parts m_ways m_used m_greaterNow m_countNow) → va_S A s.heap H locs → lv_has ls 6 [(0, .ref (ad 0)), (1, .int x1), (2, .int x2)] → W p l e ({ frames := 1, cells := 0, slots := 0, locals := 23 } : Room) s m ([.ref (ad 0)] : List Value).toArray below meth c H locs 0 0 (MQ below (va_Qi (fun (r : Int32) (u : (Nat → Int32) × (Nat → Int32)) => Q r u.1 u.2) (Bw (dC, dI) (KA cs) A (fun u : (Nat → Int32) × (Nat → Int32) => (wX7 cs ad m_n u.1 m_shelf m_opens m_lists m_listed u.2 m_counts m_older m_products m_part m_parts m_ways m_used m_greaterNow m_countNow))) A) ([.ref (ad 0)] : List Value).toArray s 0 0 A) (F0 m 62 ls []) := by
        intro x1 x2 m_order m_work H locs ls hq hP hD hS hl
        unfold q7_toRecords_62 at hq
        refine lv_iinc (v := (x2 + (1 : Int32))) (lv' := [(2, .int (x2 + (1 : Int32))), (0, .ref (ad 0)), (1, .int x1)]) hx hb dX7_toRecords_62 hl (k := 2) rfl (by rfl) (by decide) rfl (fun ls hl => ?_)
        refine lv_goto (tgt := 4) hx hb dX7_toRecords_65 (by decide) ?_
        exact ih4 x1 (x2 + (1 : Int32)) m_order m_work _ _ _ hq hP hD hS (lv_sub hl [1, 2, 0] rfl)
      have B32 : ∀ (k32 : Nat) (x1 : Int32) (x2 : Int32) (x3 : Int32) (x4 : Int32) (x5 : Int32) (m_order : Nat → Int32) (m_work : Nat → Int32) (H : Heap) (locs : List Loc) (ls : Array Slot), q7_toRecords_32 m_n (fun v0 v1 v2 v3 => q7_toRecords_4 m_n Q k4 v0 v1 v2 v3) Q k32 x1 x2 x3 x4 x5 m_order m_work → va_P (dC, dI) vwCl (wX7 cs ad m_n m_order m_shelf m_opens m_lists m_listed m_work m_counts m_older m_products m_part m_parts m_ways m_used m_greaterNow m_countNow) H → va_D A (wX7 cs ad m_n m_order m_shelf m_opens m_lists m_listed m_work m_counts m_older m_products m_part m_parts m_ways m_used m_greaterNow m_countNow) → va_S A s.heap H locs → lv_has ls 6 [(0, .ref (ad 0)), (1, .int x1), (2, .int x2), (3, .int x3), (4, .int x4), (5, .int x5)] → W p l e ({ frames := 1, cells := 0, slots := 0, locals := 23 } : Room) s m ([.ref (ad 0)] : List Value).toArray below meth c H locs 0 0 (MQ below (va_Qi (fun (r : Int32) (u : (Nat → Int32) × (Nat → Int32)) => Q r u.1 u.2) (Bw (dC, dI) (KA cs) A (fun u : (Nat → Int32) × (Nat → Int32) => (wX7 cs ad m_n u.1 m_shelf m_opens m_lists m_listed u.2 m_counts m_older m_products m_part m_parts m_ways m_used m_greaterNow m_countNow))) A) ([.ref (ad 0)] : List Value).toArray s 0 0 A) (F0 m 32 ls []) := by
        intro k32
        induction k32 with
        | zero => intro x1 x2 x3 x4 x5 m_order m_work H locs ls hq; exact False.elim hq
        | succ k32 ih32 =>
          intro x1 x2 x3 x4 x5 m_order m_work H locs ls hq hP hD hS hl
          unfold q7_toRecords_32 at hq
          refine lv_iload hx hb dX7_toRecords_32 (lv_at hl 5 rfl) ?_
          refine lv_iload hx hb dX7_toRecords_34 (lv_at hl 4 rfl) ?_
          refine lv_icmp_ge (tgt := 62) hx hb dX7_toRecords_36 (by decide) (fun c12 => ?_) (fun c12 => ?_)
          · have hq := hq.1 c12
            exact B62 x1 x2 m_order m_work _ _ _ hq hP hD hS (lv_sub hl [0, 1, 2] rfl)
          · have hq := hq.2 c12
            refine lv_aload_n hx hb dX7_toRecords_39 rfl (lv_at hl 0 rfl) ?_
            refine va_get (D := (dC, dI)) (ci := 7) (v := .ref (ad 5)) (C := RX7) (T := TX7) (N := 16) hx hb hts uwX7 hown hK hP 0 rfl rfl 6 (by decide) (hts _ fl_X7_29) (fun _ h9 => h9) rfl dX7_toRecords_40 ?_
            refine lv_iload_n hx hb dX7_toRecords_43 rfl (lv_at hl 1 rfl) ?_
            refine lv_iload_n hx hb dX7_toRecords_44 rfl (lv_at hl 3 rfl) ?_
            obtain ⟨i13, hq⟩ := hq
            refine va_iast hx hb hK hP hD hS 5 0 rfl rfl i13 dX7_toRecords_45 (fun H locs hP hD hS => ?_)
            have hP : va_P (dC, dI) vwCl (wX7 cs ad m_n m_order m_shelf m_opens m_lists m_listed (upd m_work x1.toNatClampNeg x3) m_counts m_older m_products m_part m_parts m_ways m_used m_greaterNow m_countNow) H := hP
            have hD : va_D A (wX7 cs ad m_n m_order m_shelf m_opens m_lists m_listed (upd m_work x1.toNatClampNeg x3) m_counts m_older m_products m_part m_parts m_ways m_used m_greaterNow m_countNow) := hD
            refine lv_iinc (v := (x1 + (1 : Int32))) (lv' := [(1, .int (x1 + (1 : Int32))), (0, .ref (ad 0)), (2, .int x2), (3, .int x3), (4, .int x4), (5, .int x5)]) hx hb dX7_toRecords_46 hl (k := 1) rfl (by rfl) (by decide) rfl (fun ls hl => ?_)
            refine lv_aload_n hx hb dX7_toRecords_49 rfl (lv_at hl 1 rfl) ?_
            refine va_get (D := (dC, dI)) (ci := 7) (v := .ref (ad 1)) (C := RX7) (T := TX7) (N := 16) hx hb hts uwX7 hown hK hP 0 rfl rfl 1 (by decide) (hts _ fl_X7_13) (fun _ h9 => h9) rfl dX7_toRecords_50 ?_
            refine lv_iload_n hx hb dX7_toRecords_53 rfl (lv_at hl 3 rfl) ?_
            obtain ⟨i14, hq⟩ := hq
            refine va_iald hx hb hK hP 1 0 rfl rfl i14 dX7_toRecords_54 ?_
            refine lv_istore_n (lv' := [(3, .int (m_order x3.toNatClampNeg)), (1, .int (x1 + (1 : Int32))), (0, .ref (ad 0)), (2, .int x2), (4, .int x4), (5, .int x5)]) hx hb dX7_toRecords_55 rfl hl (by decide) rfl (fun ls hl => ?_)
            refine lv_iinc (v := (x5 + (1 : Int32))) (lv' := [(5, .int (x5 + (1 : Int32))), (3, .int (m_order x3.toNatClampNeg)), (1, .int (x1 + (1 : Int32))), (0, .ref (ad 0)), (2, .int x2), (4, .int x4)]) hx hb dX7_toRecords_56 hl (k := 5) rfl (by rfl) (by decide) rfl (fun ls hl => ?_)
            refine lv_goto (tgt := 32) hx hb dX7_toRecords_59 (by decide) ?_
            exact ih32 (x1 + (1 : Int32)) x2 (m_order x3.toNatClampNeg) x4 (x5 + (1 : Int32)) m_order (upd m_work x1.toNatClampNeg x3) _ _ _ hq hP hD hS (lv_sub hl [3, 2, 4, 1, 5, 0] rfl)
      unfold q7_toRecords_4 at hq
      refine lv_iload_n hx hb dX7_toRecords_4 rfl (lv_at hl 2 rfl) ?_
      refine lv_aload_n hx hb dX7_toRecords_5 rfl (lv_at hl 0 rfl) ?_
      refine va_get (D := (dC, dI)) (ci := 7) (v := .int m_n) (C := RX7) (T := TX7) (N := 16) hx hb hts uwX7 hown hK hP 0 rfl rfl 0 (by decide) (hts _ fl_X7_7) (fun _ h9 => h9) rfl dX7_toRecords_6 ?_
      refine lv_icmp_ge (tgt := 68) hx hb dX7_toRecords_9 (by decide) (fun c15 => ?_) (fun c15 => ?_)
      · have hq := hq.1 c15
        exact B68 m_order m_work _ _ _ hq hP hD hS (lv_sub hl [0] rfl)
      · have hq := hq.2 c15
        refine lv_aload_n hx hb dX7_toRecords_12 rfl (lv_at hl 0 rfl) ?_
        refine lv_iload_n hx hb dX7_toRecords_13 rfl (lv_at hl 2 rfl) ?_
        refine roi (runV ⟨hx, hb, hml, hown, hts⟩ wf_X7_isGreatest ml_X7_164 (c7_isGreatest l dC dI cs ad m_n m_order m_shelf m_opens m_lists m_listed m_work m_counts m_older m_products m_part m_parts m_ways m_used m_greaterNow m_countNow x2 hq) ⟨⟨rfl, rfl⟩, by decide, by decide⟩ (preR hP hK hN) hK hP rfl 0 rfl rfl hl.1 rfl (Nat.le_of_ble_eq_true rfl) dX7_toRecords_14 ⟨(Nat.le_of_ble_eq_true rfl), (Nat.le_of_ble_eq_true rfl)⟩) (fun r16 hq => ?_)
        refine lv_if_eq (tgt := 62) hx hb dX7_toRecords_17 (by decide) (fun c17 => ?_) (fun c17 => ?_)
        · have hq := hq.1 c17
          exact B62 x1 x2 m_order m_work _ _ _ hq hP hD hS (lv_sub hl [0, 1, 2] rfl)
        · have hq := hq.2 c17
          refine lv_iload_n hx hb dX7_toRecords_20 rfl (lv_at hl 2 rfl) ?_
          refine lv_istore_n (lv' := [(3, .int x2), (0, .ref (ad 0)), (1, .int x1), (2, .int x2)]) hx hb dX7_toRecords_21 rfl hl (by decide) rfl (fun ls hl => ?_)
          refine lv_aload_n hx hb dX7_toRecords_22 rfl (lv_at hl 1 rfl) ?_
          refine lv_iload_n hx hb dX7_toRecords_23 rfl (lv_at hl 3 rfl) ?_
          refine roi (runV ⟨hx, hb, hml, hown, hts⟩ wf_X7_roundOf ml_X7_66 (c7_roundOf l dC dI cs ad m_n m_order m_shelf m_opens m_lists m_listed m_work m_counts m_older m_products m_part m_parts m_ways m_used m_greaterNow m_countNow x2 hq) ⟨⟨rfl, rfl⟩, by decide, by decide⟩ (preR hP hK hN) hK hP rfl 0 rfl rfl hl.1 rfl (Nat.le_of_ble_eq_true rfl) dX7_toRecords_24 ⟨(Nat.le_of_ble_eq_true rfl), (Nat.le_of_ble_eq_true rfl)⟩) (fun r18 hq => ?_)
          refine lv_istore (lv' := [(4, .int r18), (3, .int x2), (0, .ref (ad 0)), (1, .int x1), (2, .int x2)]) hx hb dX7_toRecords_27 hl (by decide) rfl (fun ls hl => ?_)
          refine lv_iconst (v := (0 : Int32)) hx hb dX7_toRecords_29 (by decide) ?_
          refine lv_istore (lv' := [(5, .int (0 : Int32)), (4, .int r18), (3, .int x2), (0, .ref (ad 0)), (1, .int x1), (2, .int x2)]) hx hb dX7_toRecords_30 hl (by decide) rfl (fun ls hl => ?_)
          obtain ⟨kf, hq⟩ := hq
          exact B32 kf x1 x2 x2 r18 (0 : Int32) m_order m_work _ _ _ hq hP hD hS (lv_sub hl [3, 4, 5, 2, 1, 0] rfl)
  unfold q7_toRecords at hq
  refine lv_iconst (v := (0 : Int32)) hx hb dX7_toRecords_0 (by decide) ?_
  refine lv_istore_n (lv' := [(1, .int (0 : Int32)), (0, .ref (ad 0))]) hx hb dX7_toRecords_1 rfl hl (by decide) rfl (fun ls hl => ?_)
  refine lv_iconst (v := (0 : Int32)) hx hb dX7_toRecords_2 (by decide) ?_
  refine lv_istore_n (lv' := [(2, .int (0 : Int32)), (1, .int (0 : Int32)), (0, .ref (ad 0))]) hx hb dX7_toRecords_3 rfl hl (by decide) rfl (fun ls hl => ?_)
  obtain ⟨kf, hq⟩ := hq
  exact B4 kf (0 : Int32) (0 : Int32) m_order m_work _ _ _ hq hP hD hS (lv_sub hl [2, 1, 0] rfl)
set_option maxHeartbeats 4000000 in
set_option maxRecDepth 100000 in
theorem c7_opens (l : Launch) (dC : Nat → ClassId) (dI : Nat → Nat → Nat) (cs : Nat → ClassId) (ad : Nat → Nat) (sz : Nat) (m_n : Int32) (m_order : Nat → Int32) (m_shelf : Nat → Int32) (m_opens : Int32) (m_lists : Nat → Int32) (m_listed : Nat → Int32) (m_work : Nat → Int32) (m_counts : Nat → Int64) (m_older : Nat → Int64) (m_products : Nat → Int64) (m_part : Nat → Int32) (m_parts : Int32) (m_ways : Nat → Int64) (m_used : Int32) (m_greaterNow : Int32) (m_countNow : Int32) (a1 : Int32) {Q : Int32 → Int32 → Prop} (hq : q7_opens m_n m_opens a1 Q) : Met l yX7_opens (.code yX7_opens cX7_opens 3 (some .int) :: gt) ({ frames := 1, cells := 0, slots := 0, locals := 25 } : Room) (va_Pc [.ref (ad 0), .int a1] (Pw (dC, dI) (KA cs) (wX7 cs ad m_n m_order m_shelf m_opens m_lists m_listed m_work m_counts m_older m_products m_part m_parts m_ways m_used m_greaterNow m_countNow) sz)) (va_Qi (fun (r : Int32) (u : Int32) => Q r u) (Bw (dC, dI) (KA cs) (va_A (wX7 cs ad m_n m_order m_shelf m_opens m_lists m_listed m_work m_counts m_older m_products m_part m_parts m_ways m_used m_greaterNow m_countNow) sz) (fun u : Int32 => (wX7 cs ad m_n m_order m_shelf u m_lists m_listed m_work m_counts m_older m_products m_part m_parts m_ways m_used m_greaterNow m_countNow))) (va_A (wX7 cs ad m_n m_order m_shelf m_opens m_lists m_listed m_work m_counts m_older m_products m_part m_parts m_ways m_used m_greaterNow m_countNow) sz)) 0 0 (va_A (wX7 cs ad m_n m_order m_shelf m_opens m_lists m_listed m_work m_counts m_older m_products m_part m_parts m_ways m_used m_greaterNow m_countNow) sz) := by
  refine Met.ofW (cc := cX7_opens) (maxL := 3) (ret := (some .int)) (by decide) rfl ?_
  intro p e s m args below meth c s₁ B hml hv
  obtain ⟨rfl, hsz, hP, hK, hD0, hN⟩ := hv
  have hx := B.exec
  have hb := B.bytes
  have hr := B.returns
  have hts0 := atoms_spec (ws := (.code yX7_opens cX7_opens 3 (some .int) :: gt)) B.pre
  have hts : ∀ w ∈ gt, w.before _ s = true := fun w h => hts0 w (List.mem_cons_of_mem _ h)
  have hown : s.vm.findClass RX7 = some m.cls := findClass_of_methodNamed B.named
  have hlocks := B.notSynchronized
  subst hsz
  have hD := hD0.self (sz := s.heap.size)
  generalize hAe : va_A (wX7 cs ad m_n m_order m_shelf m_opens m_lists m_listed m_work m_counts m_older m_products m_part m_parts m_ways m_used m_greaterNow m_countNow) s.heap.size = A at hD ⊢
  have hA : ∀ q : Nat, s.heap.size ≤ q → A q := fun q h => by rw [← hAe]; exact Or.inr h
  have hS : va_S A s.heap s.heap [] := va_S.rf
  have hl := lv_entry ([.ref (ad 0), .int a1]) (n := 3) (Nat.le_of_ble_eq_true rfl)
  rw [lg_entry_eq]
  generalize (lg_sl ([.ref (ad 0), .int a1]) ++ List.replicate (3 - (lg_sl ([.ref (ad 0), .int a1])).length) Slot.unset).toArray = ls at hl ⊢
  have hl : lv_has ls 3 [(0, .ref (ad 0)), (1, .int a1)] := hl
  unfold q7_opens at hq
  refine lv_iload_n hx hb dX7_opens_0 rfl (lv_at hl 1 rfl) ?_
  refine lv_i2l (v := a1.toInt64) hx hb dX7_opens_1 rfl ?_
  refine lv_lconst (v := (1 : Int64)) hx hb dX7_opens_2 (by decide) ?_
  refine lv_aload_n hx hb dX7_opens_3 rfl (lv_at hl 0 rfl) ?_
  refine va_get (D := (dC, dI)) (ci := 7) (v := .int m_n) (C := RX7) (T := TX7) (N := 16) hx hb hts uwX7 hown hK hP 0 rfl rfl 0 (by decide) (hts _ fl_X7_7) (fun _ h9 => h9) rfl dX7_opens_4 ?_
  refine lv_i2l (v := m_n.toInt64) hx hb dX7_opens_7 rfl ?_
  refine roi (runS ⟨hx, hb, hml, hown, hts⟩ ws_X7_in ml_X7_51 (c7_in l dC dI cs   a1.toInt64 (1 : Int64) m_n.toInt64 hq) ⟨⟨rfl, rfl⟩, by decide, by decide⟩ (preR va_P_nil hK hN) hN rfl hl.1 rfl (Nat.le_of_ble_eq_true rfl) dX7_opens_8 ⟨(Nat.le_of_ble_eq_true rfl), (Nat.le_of_ble_eq_true rfl)⟩) (fun r3 hq => ?_)
  refine lv_if_ne (tgt := 17) hx hb dX7_opens_11 (by decide) (fun c4 => ?_) (fun c4 => ?_)
  · have hq := hq.1 c4
    refine lv_aload_n hx hb dX7_opens_17 rfl (lv_at hl 0 rfl) ?_
    refine va_get (D := (dC, dI)) (ci := 7) (v := .int m_opens) (C := RX7) (T := TX7) (N := 16) hx hb hts uwX7 hown hK hP 0 rfl rfl 3 (by decide) (hts _ fl_X7_20) (fun _ h9 => h9) rfl dX7_opens_18 ?_
    refine lv_istore_n (lv' := [(2, .int m_opens), (0, .ref (ad 0)), (1, .int a1)]) hx hb dX7_opens_21 rfl hl (by decide) rfl (fun ls hl => ?_)
    refine lv_aload_n hx hb dX7_opens_22 rfl (lv_at hl 1 rfl) ?_
    refine lv_iload_n hx hb dX7_opens_23 rfl (lv_at hl 2 rfl) ?_
    refine va_put (D := (dC, dI)) (ci := 7) (v := .int a1) (ty := .int) (C := RX7) (T := TX7) (N := 16) hx hb hts uwX7 tyX7 tyX7_ok nmX7 hown hK hP hD hS 0 rfl rfl 3 (by decide) (hts _ fl_X7_20) (fun _ h9 => h9) rfl (by decide +kernel) rfl rfl (Nat.le_of_ble_eq_true rfl) dX7_opens_24 (fun H locs hP hD hS => ?_)
    have hP : va_P (dC, dI) vwCl (wX7 cs ad m_n m_order m_shelf a1 m_lists m_listed m_work m_counts m_older m_products m_part m_parts m_ways m_used m_greaterNow m_countNow) H := hP
    have hD : va_D A (wX7 cs ad m_n m_order m_shelf a1 m_lists m_listed m_work m_counts m_older m_products m_part m_parts m_ways m_used m_greaterNow m_countNow) := hD
    refine lv_iload_n hx hb dX7_opens_27 rfl (lv_at hl 0 rfl) ?_
    exact W.iret (v := m_opens) hx hb hr (fun t ht hW => ⟨⟨m_opens, a1, rfl, hq, Bw_mk (by rw [ht]; exact hP) (va_K.moved hW.alike hK) hD⟩, hS.F ht⟩) hS.2.2 dX7_opens_28
  · have hq := hq.2 c4
    refine lv_bipush (v := (-2 : Int32)) hx hb dX7_opens_14 (by decide) ?_
    exact W.iret (v := (-2 : Int32)) hx hb hr (fun t ht hW => ⟨⟨(-2 : Int32), m_opens, rfl, hq, Bw_mk (by rw [ht]; exact hP) (va_K.moved hW.alike hK) hD⟩, hS.F ht⟩) hS.2.2 dX7_opens_16
set_option maxHeartbeats 4000000 in
set_option maxRecDepth 100000 in
theorem c7_list (l : Launch) (dC : Nat → ClassId) (dI : Nat → Nat → Nat) (cs : Nat → ClassId) (ad : Nat → Nat) (sz : Nat) (m_n : Int32) (m_order : Nat → Int32) (m_shelf : Nat → Int32) (m_opens : Int32) (m_lists : Nat → Int32) (m_listed : Nat → Int32) (m_work : Nat → Int32) (m_counts : Nat → Int64) (m_older : Nat → Int64) (m_products : Nat → Int64) (m_part : Nat → Int32) (m_parts : Int32) (m_ways : Nat → Int64) (m_used : Int32) (m_greaterNow : Int32) (m_countNow : Int32) (a1 : Int32) (a2 : Int32) {Q : Int32 → (Nat → Int32) → (Nat → Int32) → Prop} (hq : q7_list m_n m_lists m_listed a1 a2 Q) : Met l yX7_list (.code yX7_list cX7_list 4 (some .int) :: gt) ({ frames := 2, cells := 0, slots := 0, locals := 46 } : Room) (va_Pc [.ref (ad 0), .int a1, .int a2] (Pw (dC, dI) (KA cs) (wX7 cs ad m_n m_order m_shelf m_opens m_lists m_listed m_work m_counts m_older m_products m_part m_parts m_ways m_used m_greaterNow m_countNow) sz)) (va_Qi (fun (r : Int32) (u : (Nat → Int32) × (Nat → Int32)) => Q r u.1 u.2) (Bw (dC, dI) (KA cs) (va_A (wX7 cs ad m_n m_order m_shelf m_opens m_lists m_listed m_work m_counts m_older m_products m_part m_parts m_ways m_used m_greaterNow m_countNow) sz) (fun u : (Nat → Int32) × (Nat → Int32) => (wX7 cs ad m_n m_order m_shelf m_opens u.1 u.2 m_work m_counts m_older m_products m_part m_parts m_ways m_used m_greaterNow m_countNow))) (va_A (wX7 cs ad m_n m_order m_shelf m_opens m_lists m_listed m_work m_counts m_older m_products m_part m_parts m_ways m_used m_greaterNow m_countNow) sz)) 0 0 (va_A (wX7 cs ad m_n m_order m_shelf m_opens m_lists m_listed m_work m_counts m_older m_products m_part m_parts m_ways m_used m_greaterNow m_countNow) sz) := by
  refine Met.ofW (cc := cX7_list) (maxL := 4) (ret := (some .int)) (by decide) rfl ?_
  intro p e s m args below meth c s₁ B hml hv
  obtain ⟨rfl, hsz, hP, hK, hD0, hN⟩ := hv
  have hx := B.exec
  have hb := B.bytes
  have hr := B.returns
  have hts0 := atoms_spec (ws := (.code yX7_list cX7_list 4 (some .int) :: gt)) B.pre
  have hts : ∀ w ∈ gt, w.before _ s = true := fun w h => hts0 w (List.mem_cons_of_mem _ h)
  have hown : s.vm.findClass RX7 = some m.cls := findClass_of_methodNamed B.named
  have hlocks := B.notSynchronized
  subst hsz
  have hD := hD0.self (sz := s.heap.size)
  generalize hAe : va_A (wX7 cs ad m_n m_order m_shelf m_opens m_lists m_listed m_work m_counts m_older m_products m_part m_parts m_ways m_used m_greaterNow m_countNow) s.heap.size = A at hD ⊢
  have hA : ∀ q : Nat, s.heap.size ≤ q → A q := fun q h => by rw [← hAe]; exact Or.inr h
  have hS : va_S A s.heap s.heap [] := va_S.rf
  have hl := lv_entry ([.ref (ad 0), .int a1, .int a2]) (n := 4) (Nat.le_of_ble_eq_true rfl)
  rw [lg_entry_eq]
  generalize (lg_sl ([.ref (ad 0), .int a1, .int a2]) ++ List.replicate (4 - (lg_sl ([.ref (ad 0), .int a1, .int a2])).length) Slot.unset).toArray = ls at hl ⊢
  have hl : lv_has ls 4 [(0, .ref (ad 0)), (1, .int a1), (2, .int a2)] := hl
  have B55 : ∀ (x1 : Int32) (x2 : Int32) (m_lists : Nat → Int32) (m_listed : Nat → Int32) (H : Heap) (locs : List Loc) (ls : Array Slot), q7_list_55 m_n Q x1 x2 m_lists m_listed → va_P (dC, dI) vwCl (wX7 cs ad m_n m_order m_shelf m_opens m_lists m_listed m_work m_counts m_older m_products m_part m_parts m_ways m_used m_greaterNow m_countNow) H → va_D A (wX7 cs ad m_n m_order m_shelf m_opens m_lists m_listed m_work m_counts m_older m_products m_part m_parts m_ways m_used m_greaterNow m_countNow) → va_S A s.heap H locs → lv_has ls 4 [(0, .ref (ad 0)), (1, .int x1), (2, .int x2)] → W p l e ({ frames := 2, cells := 0, slots := 0, locals := 46 } : Room) s m ([.ref (ad 0), .int a1, .int a2] : List Value).toArray below meth c H locs 0 0 (MQ below (va_Qi (fun (r : Int32) (u : (Nat → Int32) × (Nat → Int32)) => Q r u.1 u.2) (Bw (dC, dI) (KA cs) A (fun u : (Nat → Int32) × (Nat → Int32) => (wX7 cs ad m_n m_order m_shelf m_opens u.1 u.2 m_work m_counts m_older m_products m_part m_parts m_ways m_used m_greaterNow m_countNow))) A) ([.ref (ad 0), .int a1, .int a2] : List Value).toArray s 0 0 A) (F0 m 55 ls []) := by
    intro x1 x2 m_lists m_listed H locs ls hq hP hD hS hl
    unfold q7_list_55 at hq
    refine lv_aload_n hx hb dX7_list_55 rfl (lv_at hl 0 rfl) ?_
    refine va_get (D := (dC, dI)) (ci := 7) (v := .ref (ad 3)) (C := RX7) (T := TX7) (N := 16) hx hb hts uwX7 hown hK hP 0 rfl rfl 4 (by decide) (hts _ fl_X7_23) (fun _ h9 => h9) rfl dX7_list_56 ?_
    refine lv_bipush (v := (18 : Int32)) hx hb dX7_list_59 (by decide) ?_
    refine lv_iload_n hx hb dX7_list_61 rfl (lv_at hl 1 rfl) ?_
    refine lv_imul hx hb dX7_list_62 ?_
    refine lv_aload_n hx hb dX7_list_63 rfl (lv_at hl 0 rfl) ?_
    refine va_get (D := (dC, dI)) (ci := 7) (v := .ref (ad 4)) (C := RX7) (T := TX7) (N := 16) hx hb hts uwX7 hown hK hP 0 rfl rfl 5 (by decide) (hts _ fl_X7_26) (fun _ h9 => h9) rfl dX7_list_64 ?_
    refine lv_iload_n hx hb dX7_list_67 rfl (lv_at hl 1 rfl) ?_
    obtain ⟨i14, hq⟩ := hq
    refine va_iald hx hb hK hP 4 0 rfl rfl i14 dX7_list_68 ?_
    refine lv_iadd hx hb dX7_list_69 ?_
    refine lv_iload_n hx hb dX7_list_70 rfl (lv_at hl 2 rfl) ?_
    obtain ⟨i15, hq⟩ := hq
    refine va_iast hx hb hK hP hD hS 3 0 rfl rfl i15 dX7_list_71 (fun H locs hP hD hS => ?_)
    have hP : va_P (dC, dI) vwCl (wX7 cs ad m_n m_order m_shelf m_opens (upd m_lists (((18 : Int32) * x1) + (m_listed x1.toNatClampNeg)).toNatClampNeg x2) m_listed m_work m_counts m_older m_products m_part m_parts m_ways m_used m_greaterNow m_countNow) H := hP
    have hD : va_D A (wX7 cs ad m_n m_order m_shelf m_opens (upd m_lists (((18 : Int32) * x1) + (m_listed x1.toNatClampNeg)).toNatClampNeg x2) m_listed m_work m_counts m_older m_products m_part m_parts m_ways m_used m_greaterNow m_countNow) := hD
    refine lv_aload_n hx hb dX7_list_72 rfl (lv_at hl 0 rfl) ?_
    refine va_get (D := (dC, dI)) (ci := 7) (v := .ref (ad 4)) (C := RX7) (T := TX7) (N := 16) hx hb hts uwX7 hown hK hP 0 rfl rfl 5 (by decide) (hts _ fl_X7_26) (fun _ h9 => h9) rfl dX7_list_73 ?_
    refine lv_iload_n hx hb dX7_list_76 rfl (lv_at hl 1 rfl) ?_
    refine lv_dup2_11 hx hb dX7_list_77 rfl rfl ?_
    obtain ⟨i16, hq⟩ := hq
    refine va_iald hx hb hK hP 4 0 rfl rfl i16 dX7_list_78 ?_
    refine lv_iconst (v := (1 : Int32)) hx hb dX7_list_79 (by decide) ?_
    refine lv_iadd hx hb dX7_list_80 ?_
    obtain ⟨i17, hq⟩ := hq
    refine va_iast hx hb hK hP hD hS 4 0 rfl rfl i17 dX7_list_81 (fun H locs hP hD hS => ?_)
    have hP : va_P (dC, dI) vwCl (wX7 cs ad m_n m_order m_shelf m_opens (upd m_lists (((18 : Int32) * x1) + (m_listed x1.toNatClampNeg)).toNatClampNeg x2) (upd m_listed x1.toNatClampNeg ((m_listed x1.toNatClampNeg) + (1 : Int32))) m_work m_counts m_older m_products m_part m_parts m_ways m_used m_greaterNow m_countNow) H := hP
    have hD : va_D A (wX7 cs ad m_n m_order m_shelf m_opens (upd m_lists (((18 : Int32) * x1) + (m_listed x1.toNatClampNeg)).toNatClampNeg x2) (upd m_listed x1.toNatClampNeg ((m_listed x1.toNatClampNeg) + (1 : Int32))) m_work m_counts m_older m_products m_part m_parts m_ways m_used m_greaterNow m_countNow) := hD
    refine lv_aload_n hx hb dX7_list_82 rfl (lv_at hl 0 rfl) ?_
    refine va_get (D := (dC, dI)) (ci := 7) (v := .ref (ad 4)) (C := RX7) (T := TX7) (N := 16) hx hb hts uwX7 hown hK hP 0 rfl rfl 5 (by decide) (hts _ fl_X7_26) (fun _ h9 => h9) rfl dX7_list_83 ?_
    refine lv_iload_n hx hb dX7_list_86 rfl (lv_at hl 1 rfl) ?_
    obtain ⟨i18, hq⟩ := hq
    refine va_iald hx hb hK hP 4 0 rfl rfl i18 dX7_list_87 ?_
    exact W.iret (v := ((upd m_listed x1.toNatClampNeg ((m_listed x1.toNatClampNeg) + (1 : Int32))) x1.toNatClampNeg)) hx hb hr (fun t ht hW => ⟨⟨((upd m_listed x1.toNatClampNeg ((m_listed x1.toNatClampNeg) + (1 : Int32))) x1.toNatClampNeg), ((upd m_lists (((18 : Int32) * x1) + (m_listed x1.toNatClampNeg)).toNatClampNeg x2), (upd m_listed x1.toNatClampNeg ((m_listed x1.toNatClampNeg) + (1 : Int32)))), rfl, hq, Bw_mk (by rw [ht]; exact hP) (va_K.moved hW.alike hK) hD⟩, hS.F ht⟩) hS.2.2 dX7_list_88
  have B21 : ∀ (k21 : Nat) (x1 : Int32) (x2 : Int32) (x3 : Int32) (m_lists : Nat → Int32) (m_listed : Nat → Int32) (H : Heap) (locs : List Loc) (ls : Array Slot), q7_list_21 m_n Q k21 x1 x2 x3 m_lists m_listed → va_P (dC, dI) vwCl (wX7 cs ad m_n m_order m_shelf m_opens m_lists m_listed m_work m_counts m_older m_products m_part m_parts m_ways m_used m_greaterNow m_countNow) H → va_D A (wX7 cs ad m_n m_order m_shelf m_opens m_lists m_listed m_work m_counts m_older m_products m_part m_parts m_ways m_used m_greaterNow m_countNow) → va_S A s.heap H locs → lv_has ls 4 [(0, .ref (ad 0)), (1, .int x1), (2, .int x2), (3, .int x3)] → W p l e ({ frames := 2, cells := 0, slots := 0, locals := 46 } : Room) s m ([.ref (ad 0), .int a1, .int a2] : List Value).toArray below meth c H locs 0 0 (MQ below (va_Qi (fun (r : Int32) (u : (Nat → Int32) × (Nat → Int32)) => Q r u.1 u.2) (Bw (dC, dI) (KA cs) A (fun u : (Nat → Int32) × (Nat → Int32) => (wX7 cs ad m_n m_order m_shelf m_opens u.1 u.2 m_work m_counts m_older m_products m_part m_parts m_ways m_used m_greaterNow m_countNow))) A) ([.ref (ad 0), .int a1, .int a2] : List Value).toArray s 0 0 A) (F0 m 21 ls []) := by
    intro k21
    induction k21 with
    | zero => intro x1 x2 x3 m_lists m_listed H locs ls hq; exact False.elim hq
    | succ k21 ih21 =>
      intro x1 x2 x3 m_lists m_listed H locs ls hq hP hD hS hl
      unfold q7_list_21 at hq
      refine lv_iload_n hx hb dX7_list_21 rfl (lv_at hl 3 rfl) ?_
      refine lv_aload_n hx hb dX7_list_22 rfl (lv_at hl 0 rfl) ?_
      refine va_get (D := (dC, dI)) (ci := 7) (v := .ref (ad 4)) (C := RX7) (T := TX7) (N := 16) hx hb hts uwX7 hown hK hP 0 rfl rfl 5 (by decide) (hts _ fl_X7_26) (fun _ h9 => h9) rfl dX7_list_23 ?_
      refine lv_iload_n hx hb dX7_list_26 rfl (lv_at hl 1 rfl) ?_
      obtain ⟨i19, hq⟩ := hq
      refine va_iald hx hb hK hP 4 0 rfl rfl i19 dX7_list_27 ?_
      refine lv_icmp_ge (tgt := 55) hx hb dX7_list_28 (by decide) (fun c20 => ?_) (fun c20 => ?_)
      · have hq := hq.1 c20
        exact B55 x1 x2 m_lists m_listed _ _ _ hq hP hD hS (lv_sub hl [0, 1, 2] rfl)
      · have hq := hq.2 c20
        refine lv_aload_n hx hb dX7_list_31 rfl (lv_at hl 0 rfl) ?_
        refine va_get (D := (dC, dI)) (ci := 7) (v := .ref (ad 3)) (C := RX7) (T := TX7) (N := 16) hx hb hts uwX7 hown hK hP 0 rfl rfl 4 (by decide) (hts _ fl_X7_23) (fun _ h9 => h9) rfl dX7_list_32 ?_
        refine lv_bipush (v := (18 : Int32)) hx hb dX7_list_35 (by decide) ?_
        refine lv_iload_n hx hb dX7_list_37 rfl (lv_at hl 1 rfl) ?_
        refine lv_imul hx hb dX7_list_38 ?_
        refine lv_iload_n hx hb dX7_list_39 rfl (lv_at hl 3 rfl) ?_
        refine lv_iadd hx hb dX7_list_40 ?_
        obtain ⟨i21, hq⟩ := hq
        refine va_iald hx hb hK hP 3 0 rfl rfl i21 dX7_list_41 ?_
        refine lv_iload_n hx hb dX7_list_42 rfl (lv_at hl 2 rfl) ?_
        refine lv_icmp_ne (tgt := 49) hx hb dX7_list_43 (by decide) (fun c22 => ?_) (fun c22 => ?_)
        · have hq := hq.1 c22
          refine lv_iinc (v := (x3 + (1 : Int32))) (lv' := [(3, .int (x3 + (1 : Int32))), (0, .ref (ad 0)), (1, .int x1), (2, .int x2)]) hx hb dX7_list_49 hl (k := 3) rfl (by rfl) (by decide) rfl (fun ls hl => ?_)
          refine lv_goto (tgt := 21) hx hb dX7_list_52 (by decide) ?_
          exact ih21 x1 x2 (x3 + (1 : Int32)) m_lists m_listed _ _ _ hq hP hD hS (lv_sub hl [1, 2, 3, 0] rfl)
        · have hq := hq.2 c22
          refine lv_bipush (v := (-4 : Int32)) hx hb dX7_list_46 (by decide) ?_
          exact W.iret (v := (-4 : Int32)) hx hb hr (fun t ht hW => ⟨⟨(-4 : Int32), (m_lists, m_listed), rfl, hq, Bw_mk (by rw [ht]; exact hP) (va_K.moved hW.alike hK) hD⟩, hS.F ht⟩) hS.2.2 dX7_list_48
  unfold q7_list at hq
  refine lv_aload_n hx hb dX7_list_0 rfl (lv_at hl 0 rfl) ?_
  refine lv_iload_n hx hb dX7_list_1 rfl (lv_at hl 1 rfl) ?_
  refine roi (runV ⟨hx, hb, hml, hown, hts⟩ wf_X7_isThing ml_X7_60 (c7_isThing l dC dI cs ad m_n m_order m_shelf m_opens m_lists m_listed m_work m_counts m_older m_products m_part m_parts m_ways m_used m_greaterNow m_countNow a1 hq) ⟨⟨rfl, rfl⟩, by decide, by decide⟩ (preR hP hK hN) hK hP rfl 0 rfl rfl hl.1 rfl (Nat.le_of_ble_eq_true rfl) dX7_list_2 ⟨(Nat.le_of_ble_eq_true rfl), (Nat.le_of_ble_eq_true rfl)⟩) (fun r23 hq => ?_)
  refine lv_if_eq (tgt := 16) hx hb dX7_list_5 (by decide) (fun c24 => ?_) (fun c24 => ?_)
  · have hq := hq.1 c24
    refine lv_bipush (v := (-2 : Int32)) hx hb dX7_list_16 (by decide) ?_
    exact W.iret (v := (-2 : Int32)) hx hb hr (fun t ht hW => ⟨⟨(-2 : Int32), (m_lists, m_listed), rfl, hq, Bw_mk (by rw [ht]; exact hP) (va_K.moved hW.alike hK) hD⟩, hS.F ht⟩) hS.2.2 dX7_list_18
  · have hq := hq.2 c24
    refine lv_aload_n hx hb dX7_list_8 rfl (lv_at hl 0 rfl) ?_
    refine lv_iload_n hx hb dX7_list_9 rfl (lv_at hl 2 rfl) ?_
    refine roi (runV ⟨hx, hb, hml, hown, hts⟩ wf_X7_isThing ml_X7_60 (c7_isThing l dC dI cs ad m_n m_order m_shelf m_opens m_lists m_listed m_work m_counts m_older m_products m_part m_parts m_ways m_used m_greaterNow m_countNow a2 hq) ⟨⟨rfl, rfl⟩, by decide, by decide⟩ (preR hP hK hN) hK hP rfl 0 rfl rfl hl.1 rfl (Nat.le_of_ble_eq_true rfl) dX7_list_10 ⟨(Nat.le_of_ble_eq_true rfl), (Nat.le_of_ble_eq_true rfl)⟩) (fun r25 hq => ?_)
    refine lv_if_ne (tgt := 19) hx hb dX7_list_13 (by decide) (fun c26 => ?_) (fun c26 => ?_)
    · have hq := hq.1 c26
      refine lv_iconst (v := (0 : Int32)) hx hb dX7_list_19 (by decide) ?_
      refine lv_istore_n (lv' := [(3, .int (0 : Int32)), (0, .ref (ad 0)), (1, .int a1), (2, .int a2)]) hx hb dX7_list_20 rfl hl (by decide) rfl (fun ls hl => ?_)
      obtain ⟨kf, hq⟩ := hq
      exact B21 kf a1 a2 (0 : Int32) m_lists m_listed _ _ _ hq hP hD hS (lv_sub hl [1, 2, 3, 0] rfl)
    · have hq := hq.2 c26
      refine lv_bipush (v := (-2 : Int32)) hx hb dX7_list_16 (by decide) ?_
      exact W.iret (v := (-2 : Int32)) hx hb hr (fun t ht hW => ⟨⟨(-2 : Int32), (m_lists, m_listed), rfl, hq, Bw_mk (by rw [ht]; exact hP) (va_K.moved hW.alike hK) hD⟩, hS.F ht⟩) hS.2.2 dX7_list_18
set_option maxHeartbeats 4000000 in
set_option maxRecDepth 100000 in
theorem c7_forget (l : Launch) (dC : Nat → ClassId) (dI : Nat → Nat → Nat) (cs : Nat → ClassId) (ad : Nat → Nat) (sz : Nat) (m_n : Int32) (m_order : Nat → Int32) (m_shelf : Nat → Int32) (m_opens : Int32) (m_lists : Nat → Int32) (m_listed : Nat → Int32) (m_work : Nat → Int32) (m_counts : Nat → Int64) (m_older : Nat → Int64) (m_products : Nat → Int64) (m_part : Nat → Int32) (m_parts : Int32) (m_ways : Nat → Int64) (m_used : Int32) (m_greaterNow : Int32) (m_countNow : Int32) (a1 : Int32) {Q : Int32 → (Nat → Int32) → Prop} (hq : q7_forget m_n m_listed a1 Q) : Met l yX7_forget (.code yX7_forget cX7_forget 3 (some .int) :: gt) ({ frames := 2, cells := 0, slots := 0, locals := 46 } : Room) (va_Pc [.ref (ad 0), .int a1] (Pw (dC, dI) (KA cs) (wX7 cs ad m_n m_order m_shelf m_opens m_lists m_listed m_work m_counts m_older m_products m_part m_parts m_ways m_used m_greaterNow m_countNow) sz)) (va_Qi (fun (r : Int32) (u : (Nat → Int32)) => Q r u) (Bw (dC, dI) (KA cs) (va_A (wX7 cs ad m_n m_order m_shelf m_opens m_lists m_listed m_work m_counts m_older m_products m_part m_parts m_ways m_used m_greaterNow m_countNow) sz) (fun u : (Nat → Int32) => (wX7 cs ad m_n m_order m_shelf m_opens m_lists u m_work m_counts m_older m_products m_part m_parts m_ways m_used m_greaterNow m_countNow))) (va_A (wX7 cs ad m_n m_order m_shelf m_opens m_lists m_listed m_work m_counts m_older m_products m_part m_parts m_ways m_used m_greaterNow m_countNow) sz)) 0 0 (va_A (wX7 cs ad m_n m_order m_shelf m_opens m_lists m_listed m_work m_counts m_older m_products m_part m_parts m_ways m_used m_greaterNow m_countNow) sz) := by
  refine Met.ofW (cc := cX7_forget) (maxL := 3) (ret := (some .int)) (by decide) rfl ?_
  intro p e s m args below meth c s₁ B hml hv
  obtain ⟨rfl, hsz, hP, hK, hD0, hN⟩ := hv
  have hx := B.exec
  have hb := B.bytes
  have hr := B.returns
  have hts0 := atoms_spec (ws := (.code yX7_forget cX7_forget 3 (some .int) :: gt)) B.pre
  have hts : ∀ w ∈ gt, w.before _ s = true := fun w h => hts0 w (List.mem_cons_of_mem _ h)
  have hown : s.vm.findClass RX7 = some m.cls := findClass_of_methodNamed B.named
  have hlocks := B.notSynchronized
  subst hsz
  have hD := hD0.self (sz := s.heap.size)
  generalize hAe : va_A (wX7 cs ad m_n m_order m_shelf m_opens m_lists m_listed m_work m_counts m_older m_products m_part m_parts m_ways m_used m_greaterNow m_countNow) s.heap.size = A at hD ⊢
  have hA : ∀ q : Nat, s.heap.size ≤ q → A q := fun q h => by rw [← hAe]; exact Or.inr h
  have hS : va_S A s.heap s.heap [] := va_S.rf
  have hl := lv_entry ([.ref (ad 0), .int a1]) (n := 3) (Nat.le_of_ble_eq_true rfl)
  rw [lg_entry_eq]
  generalize (lg_sl ([.ref (ad 0), .int a1]) ++ List.replicate (3 - (lg_sl ([.ref (ad 0), .int a1])).length) Slot.unset).toArray = ls at hl ⊢
  have hl : lv_has ls 3 [(0, .ref (ad 0)), (1, .int a1)] := hl
  unfold q7_forget at hq
  refine lv_aload_n hx hb dX7_forget_0 rfl (lv_at hl 0 rfl) ?_
  refine lv_iload_n hx hb dX7_forget_1 rfl (lv_at hl 1 rfl) ?_
  refine roi (runV ⟨hx, hb, hml, hown, hts⟩ wf_X7_isThing ml_X7_60 (c7_isThing l dC dI cs ad m_n m_order m_shelf m_opens m_lists m_listed m_work m_counts m_older m_products m_part m_parts m_ways m_used m_greaterNow m_countNow a1 hq) ⟨⟨rfl, rfl⟩, by decide, by decide⟩ (preR hP hK hN) hK hP rfl 0 rfl rfl hl.1 rfl (Nat.le_of_ble_eq_true rfl) dX7_forget_2 ⟨(Nat.le_of_ble_eq_true rfl), (Nat.le_of_ble_eq_true rfl)⟩) (fun r5 hq => ?_)
  refine lv_if_ne (tgt := 11) hx hb dX7_forget_5 (by decide) (fun c6 => ?_) (fun c6 => ?_)
  · have hq := hq.1 c6
    refine lv_aload_n hx hb dX7_forget_11 rfl (lv_at hl 0 rfl) ?_
    refine va_get (D := (dC, dI)) (ci := 7) (v := .ref (ad 4)) (C := RX7) (T := TX7) (N := 16) hx hb hts uwX7 hown hK hP 0 rfl rfl 5 (by decide) (hts _ fl_X7_26) (fun _ h9 => h9) rfl dX7_forget_12 ?_
    refine lv_iload_n hx hb dX7_forget_15 rfl (lv_at hl 1 rfl) ?_
    obtain ⟨i7, hq⟩ := hq
    refine va_iald hx hb hK hP 4 0 rfl rfl i7 dX7_forget_16 ?_
    refine lv_istore_n (lv' := [(2, .int (m_listed a1.toNatClampNeg)), (0, .ref (ad 0)), (1, .int a1)]) hx hb dX7_forget_17 rfl hl (by decide) rfl (fun ls hl => ?_)
    refine lv_aload_n hx hb dX7_forget_18 rfl (lv_at hl 1 rfl) ?_
    refine va_get (D := (dC, dI)) (ci := 7) (v := .ref (ad 4)) (C := RX7) (T := TX7) (N := 16) hx hb hts uwX7 hown hK hP 0 rfl rfl 5 (by decide) (hts _ fl_X7_26) (fun _ h9 => h9) rfl dX7_forget_19 ?_
    refine lv_iload_n hx hb dX7_forget_22 rfl (lv_at hl 2 rfl) ?_
    refine lv_iconst (v := (0 : Int32)) hx hb dX7_forget_23 (by decide) ?_
    obtain ⟨i8, hq⟩ := hq
    refine va_iast hx hb hK hP hD hS 4 0 rfl rfl i8 dX7_forget_24 (fun H locs hP hD hS => ?_)
    have hP : va_P (dC, dI) vwCl (wX7 cs ad m_n m_order m_shelf m_opens m_lists (upd m_listed a1.toNatClampNeg (0 : Int32)) m_work m_counts m_older m_products m_part m_parts m_ways m_used m_greaterNow m_countNow) H := hP
    have hD : va_D A (wX7 cs ad m_n m_order m_shelf m_opens m_lists (upd m_listed a1.toNatClampNeg (0 : Int32)) m_work m_counts m_older m_products m_part m_parts m_ways m_used m_greaterNow m_countNow) := hD
    refine lv_iload_n hx hb dX7_forget_25 rfl (lv_at hl 0 rfl) ?_
    exact W.iret (v := (m_listed a1.toNatClampNeg)) hx hb hr (fun t ht hW => ⟨⟨(m_listed a1.toNatClampNeg), (upd m_listed a1.toNatClampNeg (0 : Int32)), rfl, hq, Bw_mk (by rw [ht]; exact hP) (va_K.moved hW.alike hK) hD⟩, hS.F ht⟩) hS.2.2 dX7_forget_26
  · have hq := hq.2 c6
    refine lv_bipush (v := (-2 : Int32)) hx hb dX7_forget_8 (by decide) ?_
    exact W.iret (v := (-2 : Int32)) hx hb hr (fun t ht hW => ⟨⟨(-2 : Int32), m_listed, rfl, hq, Bw_mk (by rw [ht]; exact hP) (va_K.moved hW.alike hK) hD⟩, hS.F ht⟩) hS.2.2 dX7_forget_10
set_option maxHeartbeats 4000000 in
set_option maxRecDepth 100000 in
theorem c7_winsBy (l : Launch) (dC : Nat → ClassId) (dI : Nat → Nat → Nat) (cs : Nat → ClassId) (ad : Nat → Nat) (ar : Nat) (m_n : Int32) (m_order : Nat → Int32) (m_shelf : Nat → Int32) (m_opens : Int32) (m_lists : Nat → Int32) (m_listed : Nat → Int32) (m_work : Nat → Int32) (m_counts : Nat → Int64) (m_older : Nat → Int64) (m_products : Nat → Int64) (m_part : Nat → Int32) (m_parts : Int32) (m_ways : Nat → Int64) (m_used : Int32) (m_greaterNow : Int32) (m_countNow : Int32) (m_row : Nat → Int32) (a2 : Int32) {Q : Int32 → Prop} (hq : q7_winsBy m_opens m_lists m_listed m_row a2 Q) : Met l yX7_winsBy (.code yX7_winsBy cX7_winsBy 5 (some .boolean) :: gt) ({ frames := 0, cells := 0, slots := 0, locals := 0 } : Room) (va_Pc [.ref (ad 0), .ref ar, .int a2] (Pr (dC, dI) (KA cs) (wX7r cs ad ar m_n m_order m_shelf m_opens m_lists m_listed m_work m_counts m_older m_products m_part m_parts m_ways m_used m_greaterNow m_countNow m_row))) (vp_Si Q) 0 0 (fun _ => False) := by
  refine Met.ofW (cc := cX7_winsBy) (maxL := 5) (ret := (some .boolean)) (by decide) rfl ?_
  intro p e s m args below meth c s₁ B hml hv
  obtain ⟨rfl, hP, hK, hN⟩ := hv
  have hx := B.exec
  have hb := B.bytes
  have hr := B.returns
  have hts0 := atoms_spec (ws := (.code yX7_winsBy cX7_winsBy 5 (some .boolean) :: gt)) B.pre
  have hts : ∀ w ∈ gt, w.before _ s = true := fun w h => hts0 w (List.mem_cons_of_mem _ h)
  have hown : s.vm.findClass RX7 = some m.cls := findClass_of_methodNamed B.named
  have hlocks := B.notSynchronized
  have hl := lv_entry ([.ref (ad 0), .ref ar, .int a2]) (n := 5) (Nat.le_of_ble_eq_true rfl)
  rw [lg_entry_eq]
  generalize (lg_sl ([.ref (ad 0), .ref ar, .int a2]) ++ List.replicate (5 - (lg_sl ([.ref (ad 0), .ref ar, .int a2])).length) Slot.unset).toArray = ls at hl ⊢
  have hl : lv_has ls 5 [(0, .ref (ad 0)), (1, .ref ar), (2, .int a2)] := hl
  have B5 : ∀ (k5 : Nat) (x2 : Int32) (x3 : Int32) (x4 : Int32) (ls : Array Slot), q7_winsBy_5 m_opens m_lists m_listed m_row Q k5 x2 x3 x4 → lv_has ls 5 [(0, .ref (ad 0)), (1, .ref ar), (2, .int x2), (3, .int x3), (4, .int x4)] → W p l e ({ frames := 0, cells := 0, slots := 0, locals := 0 } : Room) s m ([.ref (ad 0), .ref ar, .int a2] : List Value).toArray below meth c s.heap [] 0 0 (MQ below (vp_Si Q) ([.ref (ad 0), .ref ar, .int a2] : List Value).toArray s 0 0 (fun _ => False)) (F0 m 5 ls []) := by
    intro k5
    induction k5 with
    | zero => intro x2 x3 x4 ls hq; exact False.elim hq
    | succ k5 ih5 =>
      intro x2 x3 x4 ls hq hl
      have B52 : ∀ (s0 : Int32) (x2 : Int32) (x4 : Int32) (ls : Array Slot), q7_winsBy_52 m_opens m_lists m_listed m_row (fun v0 v1 v2 => q7_winsBy_5 m_opens m_lists m_listed m_row Q k5 v0 v1 v2) Q s0 x2 x4 → lv_has ls 5 [(0, .ref (ad 0)), (1, .ref ar), (2, .int x2), (4, .int x4)] → W p l e ({ frames := 0, cells := 0, slots := 0, locals := 0 } : Room) s m ([.ref (ad 0), .ref ar, .int a2] : List Value).toArray below meth c s.heap [] 0 0 (MQ below (vp_Si Q) ([.ref (ad 0), .ref ar, .int a2] : List Value).toArray s 0 0 (fun _ => False)) (F0 m 52 ls [.int s0]) := by
        intro s0 x2 x4 ls hq hl
        unfold q7_winsBy_52 at hq
        refine lv_istore_n (lv' := [(3, .int s0), (0, .ref (ad 0)), (1, .ref ar), (2, .int x2), (4, .int x4)]) hx hb dX7_winsBy_52 rfl hl (by decide) rfl (fun ls hl => ?_)
        refine lv_iinc (v := (x4 + (1 : Int32))) (lv' := [(4, .int (x4 + (1 : Int32))), (3, .int s0), (0, .ref (ad 0)), (1, .ref ar), (2, .int x2)]) hx hb dX7_winsBy_53 hl (k := 4) rfl (by rfl) (by decide) rfl (fun ls hl => ?_)
        refine lv_goto (tgt := 5) hx hb dX7_winsBy_56 (by decide) ?_
        exact ih5 x2 s0 (x4 + (1 : Int32)) _ hq (lv_sub hl [2, 3, 4, 1, 0] rfl)
      unfold q7_winsBy_5 at hq
      refine lv_iload hx hb dX7_winsBy_5 (lv_at hl 4 rfl) ?_
      refine lv_aload_n hx hb dX7_winsBy_7 rfl (lv_at hl 0 rfl) ?_
      refine va_get (D := (dC, dI)) (ci := 7) (v := .ref (ad 4)) (C := RX7) (T := TX7) (N := 16) hx hb hts uwX7 hown hK hP 0 rfl rfl 5 (by decide) (hts _ fl_X7_26) (fun _ h9 => h9) rfl dX7_winsBy_8 ?_
      refine lv_iload_n hx hb dX7_winsBy_11 rfl (lv_at hl 2 rfl) ?_
      obtain ⟨i8, hq⟩ := hq
      refine va_iald hx hb hK hP 4 0 rfl rfl i8 dX7_winsBy_12 ?_
      refine lv_icmp_ge (tgt := 59) hx hb dX7_winsBy_13 (by decide) (fun c9 => ?_) (fun c9 => ?_)
      · have hq := hq.1 c9
        refine lv_iload_n hx hb dX7_winsBy_59 rfl (lv_at hl 3 rfl) ?_
        obtain ⟨zb, hq⟩ := hq
        exact W.zret (ty := .boolean) (v := x3) hx hb hr (by rcases zb with h9 | h9 <;> rw [h9] <;> rfl) (fun t ht hW => ⟨x3, rfl, hq, ht⟩) (fun q h => absurd h List.not_mem_nil) dX7_winsBy_60
      · have hq := hq.2 c9
        refine lv_iload hx hb dX7_winsBy_16 (lv_at hl 4 rfl) ?_
        refine lv_aload_n hx hb dX7_winsBy_18 rfl (lv_at hl 0 rfl) ?_
        refine va_get (D := (dC, dI)) (ci := 7) (v := .int m_opens) (C := RX7) (T := TX7) (N := 16) hx hb hts uwX7 hown hK hP 0 rfl rfl 3 (by decide) (hts _ fl_X7_20) (fun _ h9 => h9) rfl dX7_winsBy_19 ?_
        refine lv_icmp_ge (tgt := 59) hx hb dX7_winsBy_22 (by decide) (fun c10 => ?_) (fun c10 => ?_)
        · have hq := hq.1 c10
          refine lv_iload_n hx hb dX7_winsBy_59 rfl (lv_at hl 3 rfl) ?_
          obtain ⟨zb, hq⟩ := hq
          exact W.zret (ty := .boolean) (v := x3) hx hb hr (by rcases zb with h9 | h9 <;> rw [h9] <;> rfl) (fun t ht hW => ⟨x3, rfl, hq, ht⟩) (fun q h => absurd h List.not_mem_nil) dX7_winsBy_60
        · have hq := hq.2 c10
          refine lv_iload_n hx hb dX7_winsBy_25 rfl (lv_at hl 3 rfl) ?_
          refine lv_if_ne (tgt := 47) hx hb dX7_winsBy_26 (by decide) (fun c11 => ?_) (fun c11 => ?_)
          · have hq := hq.1 c11
            refine lv_iconst (v := (1 : Int32)) hx hb dX7_winsBy_47 (by decide) ?_
            refine lv_goto (tgt := 52) hx hb dX7_winsBy_48 (by decide) ?_
            exact B52 (1 : Int32) x2 x4 _ hq (lv_sub hl [0, 1, 2, 4] rfl)
          · have hq := hq.2 c11
            refine lv_aload_n hx hb dX7_winsBy_29 rfl (lv_at hl 1 rfl) ?_
            refine lv_aload_n hx hb dX7_winsBy_30 rfl (lv_at hl 0 rfl) ?_
            refine va_get (D := (dC, dI)) (ci := 7) (v := .ref (ad 3)) (C := RX7) (T := TX7) (N := 16) hx hb hts uwX7 hown hK hP 0 rfl rfl 4 (by decide) (hts _ fl_X7_23) (fun _ h9 => h9) rfl dX7_winsBy_31 ?_
            refine lv_bipush (v := (18 : Int32)) hx hb dX7_winsBy_34 (by decide) ?_
            refine lv_iload_n hx hb dX7_winsBy_36 rfl (lv_at hl 2 rfl) ?_
            refine lv_imul hx hb dX7_winsBy_37 ?_
            refine lv_iload hx hb dX7_winsBy_38 (lv_at hl 4 rfl) ?_
            refine lv_iadd hx hb dX7_winsBy_40 ?_
            obtain ⟨i12, hq⟩ := hq
            refine va_iald hx hb hK hP 3 0 rfl rfl i12 dX7_winsBy_41 ?_
            obtain ⟨i13, hq⟩ := hq
            refine va_iald hx hb hK hP 11 0 rfl rfl i13 dX7_winsBy_42 ?_
            refine lv_iload_n hx hb dX7_winsBy_43 rfl (lv_at hl 2 rfl) ?_
            refine lv_icmp_ne (tgt := 51) hx hb dX7_winsBy_44 (by decide) (fun c14 => ?_) (fun c14 => ?_)
            · have hq := hq.1 c14
              refine lv_iconst (v := (0 : Int32)) hx hb dX7_winsBy_51 (by decide) ?_
              exact B52 (0 : Int32) x2 x4 _ hq (lv_sub hl [0, 1, 2, 4] rfl)
            · have hq := hq.2 c14
              refine lv_iconst (v := (1 : Int32)) hx hb dX7_winsBy_47 (by decide) ?_
              refine lv_goto (tgt := 52) hx hb dX7_winsBy_48 (by decide) ?_
              exact B52 (1 : Int32) x2 x4 _ hq (lv_sub hl [0, 1, 2, 4] rfl)
  unfold q7_winsBy at hq
  refine lv_iconst (v := (0 : Int32)) hx hb dX7_winsBy_0 (by decide) ?_
  refine lv_istore_n (lv' := [(3, .int (0 : Int32)), (0, .ref (ad 0)), (1, .ref ar), (2, .int a2)]) hx hb dX7_winsBy_1 rfl hl (by decide) rfl (fun ls hl => ?_)
  refine lv_iconst (v := (0 : Int32)) hx hb dX7_winsBy_2 (by decide) ?_
  refine lv_istore (lv' := [(4, .int (0 : Int32)), (3, .int (0 : Int32)), (0, .ref (ad 0)), (1, .ref ar), (2, .int a2)]) hx hb dX7_winsBy_3 hl (by decide) rfl (fun ls hl => ?_)
  obtain ⟨kf, hq⟩ := hq
  exact B5 kf a2 (0 : Int32) (0 : Int32) _ hq (lv_sub hl [2, 3, 4, 1, 0] rfl)
set_option maxHeartbeats 4000000 in
set_option maxRecDepth 100000 in
theorem c7_wins (l : Launch) (dC : Nat → ClassId) (dI : Nat → Nat → Nat) (cs : Nat → ClassId) (ad : Nat → Nat) (m_n : Int32) (m_order : Nat → Int32) (m_shelf : Nat → Int32) (m_opens : Int32) (m_lists : Nat → Int32) (m_listed : Nat → Int32) (m_work : Nat → Int32) (m_counts : Nat → Int64) (m_older : Nat → Int64) (m_products : Nat → Int64) (m_part : Nat → Int32) (m_parts : Int32) (m_ways : Nat → Int64) (m_used : Int32) (m_greaterNow : Int32) (m_countNow : Int32) (a1 : Int32) (a2 : Int32) {Q : Int32 → Prop} (hq : q7_wins m_n m_order m_opens m_lists m_listed a1 a2 Q) : Met l yX7_wins (.code yX7_wins cX7_wins 3 (some .int) :: gt) ({ frames := 2, cells := 0, slots := 0, locals := 46 } : Room) (va_Pc [.ref (ad 0), .int a1, .int a2] (Pr (dC, dI) (KA cs) (wX7 cs ad m_n m_order m_shelf m_opens m_lists m_listed m_work m_counts m_older m_products m_part m_parts m_ways m_used m_greaterNow m_countNow))) (vp_Si Q) 0 0 (fun _ => False) := by
  refine Met.ofW (cc := cX7_wins) (maxL := 3) (ret := (some .int)) (by decide) rfl ?_
  intro p e s m args below meth c s₁ B hml hv
  obtain ⟨rfl, hP, hK, hN⟩ := hv
  have hx := B.exec
  have hb := B.bytes
  have hr := B.returns
  have hts0 := atoms_spec (ws := (.code yX7_wins cX7_wins 3 (some .int) :: gt)) B.pre
  have hts : ∀ w ∈ gt, w.before _ s = true := fun w h => hts0 w (List.mem_cons_of_mem _ h)
  have hown : s.vm.findClass RX7 = some m.cls := findClass_of_methodNamed B.named
  have hlocks := B.notSynchronized
  have hl := lv_entry ([.ref (ad 0), .int a1, .int a2]) (n := 3) (Nat.le_of_ble_eq_true rfl)
  rw [lg_entry_eq]
  generalize (lg_sl ([.ref (ad 0), .int a1, .int a2]) ++ List.replicate (3 - (lg_sl ([.ref (ad 0), .int a1, .int a2])).length) Slot.unset).toArray = ls at hl ⊢
  have hl : lv_has ls 3 [(0, .ref (ad 0)), (1, .int a1), (2, .int a2)] := hl
  unfold q7_wins at hq
  refine lv_iload_n hx hb dX7_wins_0 rfl (lv_at hl 1 rfl) ?_
  refine lv_i2l (v := a1.toInt64) hx hb dX7_wins_1 rfl ?_
  refine lv_lconst (v := (0 : Int64)) hx hb dX7_wins_2 (by decide) ?_
  refine lv_lconst (v := (1 : Int64)) hx hb dX7_wins_3 (by decide) ?_
  refine roi (runS ⟨hx, hb, hml, hown, hts⟩ ws_X7_in ml_X7_51 (c7_in l dC dI cs   a1.toInt64 (0 : Int64) (1 : Int64) hq) ⟨⟨rfl, rfl⟩, by decide, by decide⟩ (preR va_P_nil hK hN) hN rfl hl.1 rfl (Nat.le_of_ble_eq_true rfl) dX7_wins_4 ⟨(Nat.le_of_ble_eq_true rfl), (Nat.le_of_ble_eq_true rfl)⟩) (fun r10 hq => ?_)
  refine lv_if_eq (tgt := 18) hx hb dX7_wins_7 (by decide) (fun c11 => ?_) (fun c11 => ?_)
  · have hq := hq.1 c11
    refine lv_bipush (v := (-2 : Int32)) hx hb dX7_wins_18 (by decide) ?_
    exact W.iret (v := (-2 : Int32)) hx hb hr (fun t ht hW => ⟨(-2 : Int32), rfl, hq, ht⟩) (fun q h => absurd h List.not_mem_nil) dX7_wins_20
  · have hq := hq.2 c11
    refine lv_aload_n hx hb dX7_wins_10 rfl (lv_at hl 0 rfl) ?_
    refine lv_iload_n hx hb dX7_wins_11 rfl (lv_at hl 2 rfl) ?_
    refine roi (runV ⟨hx, hb, hml, hown, hts⟩ wf_X7_isThing ml_X7_60 (c7_isThing l dC dI cs ad m_n m_order m_shelf m_opens m_lists m_listed m_work m_counts m_older m_products m_part m_parts m_ways m_used m_greaterNow m_countNow a2 hq) ⟨⟨rfl, rfl⟩, by decide, by decide⟩ (preR hP hK hN) hK hP rfl 0 rfl rfl hl.1 rfl (Nat.le_of_ble_eq_true rfl) dX7_wins_12 ⟨(Nat.le_of_ble_eq_true rfl), (Nat.le_of_ble_eq_true rfl)⟩) (fun r12 hq => ?_)
    refine lv_if_ne (tgt := 21) hx hb dX7_wins_15 (by decide) (fun c13 => ?_) (fun c13 => ?_)
    · have hq := hq.1 c13
      refine lv_iload_n hx hb dX7_wins_21 rfl (lv_at hl 1 rfl) ?_
      refine lv_if_ne (tgt := 40) hx hb dX7_wins_22 (by decide) (fun c14 => ?_) (fun c14 => ?_)
      · have hq := hq.1 c14
        refine lv_aload_n hx hb dX7_wins_40 rfl (lv_at hl 0 rfl) ?_
        refine lv_aload_n hx hb dX7_wins_41 rfl (lv_at hl 0 rfl) ?_
        refine va_get (D := (dC, dI)) (ci := 7) (v := .ref (ad 1)) (C := RX7) (T := TX7) (N := 16) hx hb hts uwX7 hown hK hP 0 rfl rfl 1 (by decide) (hts _ fl_X7_13) (fun _ h9 => h9) rfl dX7_wins_42 ?_
        refine lv_iload_n hx hb dX7_wins_45 rfl (lv_at hl 2 rfl) ?_
        refine roi (runV ⟨hx, hb, hml, hown, hts⟩ wf_X7_winsBy ml_X7_167 (c7_winsBy l dC dI cs ad (ad 1) m_n m_order m_shelf m_opens m_lists m_listed m_work m_counts m_older m_products m_part m_parts m_ways m_used m_greaterNow m_countNow m_order a2 hq) ⟨⟨rfl, rfl⟩, by decide, by decide⟩ (preR (hP.sub (ws' := wX7r cs ad (ad 1) m_n m_order m_shelf m_opens m_lists m_listed m_work m_counts m_older m_products m_part m_parts m_ways m_used m_greaterNow m_countNow m_order) [0, 1, 2, 3, 4, 5, 6, 7, 8, 9, 10, 1] rfl) hK hN) hK hP rfl 0 rfl rfl hl.1 rfl (Nat.le_of_ble_eq_true rfl) dX7_wins_46 ⟨(Nat.le_of_ble_eq_true rfl), (Nat.le_of_ble_eq_true rfl)⟩) (fun r15 hq => ?_)
        refine lv_if_eq (tgt := 56) hx hb dX7_wins_49 (by decide) (fun c16 => ?_) (fun c16 => ?_)
        · have hq := hq.1 c16
          refine lv_iconst (v := (0 : Int32)) hx hb dX7_wins_56 (by decide) ?_
          exact W.iret (v := (0 : Int32)) hx hb hr (fun t ht hW => ⟨(0 : Int32), rfl, hq, ht⟩) (fun q h => absurd h List.not_mem_nil) dX7_wins_57
        · have hq := hq.2 c16
          refine lv_iconst (v := (1 : Int32)) hx hb dX7_wins_52 (by decide) ?_
          refine lv_goto (tgt := 57) hx hb dX7_wins_53 (by decide) ?_
          exact W.iret (v := (1 : Int32)) hx hb hr (fun t ht hW => ⟨(1 : Int32), rfl, hq, ht⟩) (fun q h => absurd h List.not_mem_nil) dX7_wins_57
      · have hq := hq.2 c14
        refine lv_aload_n hx hb dX7_wins_25 rfl (lv_at hl 0 rfl) ?_
        refine lv_iload_n hx hb dX7_wins_26 rfl (lv_at hl 2 rfl) ?_
        refine roi (runV ⟨hx, hb, hml, hown, hts⟩ wf_X7_roundOf ml_X7_66 (c7_roundOf l dC dI cs ad m_n m_order m_shelf m_opens m_lists m_listed m_work m_counts m_older m_products m_part m_parts m_ways m_used m_greaterNow m_countNow a2 hq) ⟨⟨rfl, rfl⟩, by decide, by decide⟩ (preR hP hK hN) hK hP rfl 0 rfl rfl hl.1 rfl (Nat.le_of_ble_eq_true rfl) dX7_wins_27 ⟨(Nat.le_of_ble_eq_true rfl), (Nat.le_of_ble_eq_true rfl)⟩) (fun r17 hq => ?_)
        refine lv_aload_n hx hb dX7_wins_30 rfl (lv_at hl 0 rfl) ?_
        refine va_get (D := (dC, dI)) (ci := 7) (v := .int m_opens) (C := RX7) (T := TX7) (N := 16) hx hb hts uwX7 hown hK hP 0 rfl rfl 3 (by decide) (hts _ fl_X7_20) (fun _ h9 => h9) rfl dX7_wins_31 ?_
        refine lv_icmp_gt (tgt := 56) hx hb dX7_wins_34 (by decide) (fun c18 => ?_) (fun c18 => ?_)
        · have hq := hq.1 c18
          refine lv_iconst (v := (0 : Int32)) hx hb dX7_wins_56 (by decide) ?_
          exact W.iret (v := (0 : Int32)) hx hb hr (fun t ht hW => ⟨(0 : Int32), rfl, hq, ht⟩) (fun q h => absurd h List.not_mem_nil) dX7_wins_57
        · have hq := hq.2 c18
          refine lv_goto (tgt := 52) hx hb dX7_wins_37 (by decide) ?_
          refine lv_iconst (v := (1 : Int32)) hx hb dX7_wins_52 (by decide) ?_
          refine lv_goto (tgt := 57) hx hb dX7_wins_53 (by decide) ?_
          exact W.iret (v := (1 : Int32)) hx hb hr (fun t ht hW => ⟨(1 : Int32), rfl, hq, ht⟩) (fun q h => absurd h List.not_mem_nil) dX7_wins_57
    · have hq := hq.2 c13
      refine lv_bipush (v := (-2 : Int32)) hx hb dX7_wins_18 (by decide) ?_
      exact W.iret (v := (-2 : Int32)) hx hb hr (fun t ht hW => ⟨(-2 : Int32), rfl, hq, ht⟩) (fun q h => absurd h List.not_mem_nil) dX7_wins_20
set_option maxHeartbeats 4000000 in
set_option maxRecDepth 100000 in
theorem c7_layRow (l : Launch) (dC : Nat → ClassId) (dI : Nat → Nat → Nat) (cs : Nat → ClassId) (ad : Nat → Nat) (sz : Nat) (m_n : Int32) (m_order : Nat → Int32) (m_shelf : Nat → Int32) (m_opens : Int32) (m_lists : Nat → Int32) (m_listed : Nat → Int32) (m_work : Nat → Int32) (m_counts : Nat → Int64) (m_older : Nat → Int64) (m_products : Nat → Int64) (m_part : Nat → Int32) (m_parts : Int32) (m_ways : Nat → Int64) (m_used : Int32) (m_greaterNow : Int32) (m_countNow : Int32) (a1 : Int32) {Q : (Nat → Int32) → Prop} (hq : q7_layRow m_n m_products m_work a1 Q) : Met l yX7_layRow (.code yX7_layRow cX7_layRow 8 none :: gt) ({ frames := 0, cells := 0, slots := 0, locals := 0 } : Room) (va_Pc [.ref (ad 0), .int a1] (Pw (dC, dI) (KA cs) (wX7 cs ad m_n m_order m_shelf m_opens m_lists m_listed m_work m_counts m_older m_products m_part m_parts m_ways m_used m_greaterNow m_countNow) sz)) (va_Qv (fun (u : (Nat → Int32)) => Q u) (Bw (dC, dI) (KA cs) (va_A (wX7 cs ad m_n m_order m_shelf m_opens m_lists m_listed m_work m_counts m_older m_products m_part m_parts m_ways m_used m_greaterNow m_countNow) sz) (fun u : (Nat → Int32) => (wX7 cs ad m_n m_order m_shelf m_opens m_lists m_listed u m_counts m_older m_products m_part m_parts m_ways m_used m_greaterNow m_countNow))) (va_A (wX7 cs ad m_n m_order m_shelf m_opens m_lists m_listed m_work m_counts m_older m_products m_part m_parts m_ways m_used m_greaterNow m_countNow) sz)) 0 0 (va_A (wX7 cs ad m_n m_order m_shelf m_opens m_lists m_listed m_work m_counts m_older m_products m_part m_parts m_ways m_used m_greaterNow m_countNow) sz) := by
  refine Met.ofW (cc := cX7_layRow) (maxL := 8) (ret := none) (by decide) rfl ?_
  intro p e s m args below meth c s₁ B hml hv
  obtain ⟨rfl, hsz, hP, hK, hD0, hN⟩ := hv
  have hx := B.exec
  have hb := B.bytes
  have hr := B.returns
  have hts0 := atoms_spec (ws := (.code yX7_layRow cX7_layRow 8 none :: gt)) B.pre
  have hts : ∀ w ∈ gt, w.before _ s = true := fun w h => hts0 w (List.mem_cons_of_mem _ h)
  have hown : s.vm.findClass RX7 = some m.cls := findClass_of_methodNamed B.named
  have hlocks := B.notSynchronized
  subst hsz
  have hD := hD0.self (sz := s.heap.size)
  generalize hAe : va_A (wX7 cs ad m_n m_order m_shelf m_opens m_lists m_listed m_work m_counts m_older m_products m_part m_parts m_ways m_used m_greaterNow m_countNow) s.heap.size = A at hD ⊢
  have hA : ∀ q : Nat, s.heap.size ≤ q → A q := fun q h => by rw [← hAe]; exact Or.inr h
  have hS : va_S A s.heap s.heap [] := va_S.rf
  have hl := lv_entry ([.ref (ad 0), .int a1]) (n := 8) (Nat.le_of_ble_eq_true rfl)
  rw [lg_entry_eq]
  generalize (lg_sl ([.ref (ad 0), .int a1]) ++ List.replicate (8 - (lg_sl ([.ref (ad 0), .int a1])).length) Slot.unset).toArray = ls at hl ⊢
  have hl : lv_has ls 8 [(0, .ref (ad 0)), (1, .int a1)] := hl
  have B7 : ∀ (k7 : Nat) (x2 : Int32) (x3 : Int32) (x4 : Int32) (m_work : Nat → Int32) (H : Heap) (locs : List Loc) (ls : Array Slot), q7_layRow_7 m_n m_products Q k7 x2 x3 x4 m_work → va_P (dC, dI) vwCl (wX7 cs ad m_n m_order m_shelf m_opens m_lists m_listed m_work m_counts m_older m_products m_part m_parts m_ways m_used m_greaterNow m_countNow) H → va_D A (wX7 cs ad m_n m_order m_shelf m_opens m_lists m_listed m_work m_counts m_older m_products m_part m_parts m_ways m_used m_greaterNow m_countNow) → va_S A s.heap H locs → lv_has ls 8 [(0, .ref (ad 0)), (2, .int x2), (3, .int x3), (4, .int x4)] → W p l e ({ frames := 0, cells := 0, slots := 0, locals := 0 } : Room) s m ([.ref (ad 0), .int a1] : List Value).toArray below meth c H locs 0 0 (MQ below (va_Qv (fun (u : (Nat → Int32)) => Q u) (Bw (dC, dI) (KA cs) A (fun u : (Nat → Int32) => (wX7 cs ad m_n m_order m_shelf m_opens m_lists m_listed u m_counts m_older m_products m_part m_parts m_ways m_used m_greaterNow m_countNow))) A) ([.ref (ad 0), .int a1] : List Value).toArray s 0 0 A) (F0 m 7 ls []) := by
    intro k7
    induction k7 with
    | zero => intro x2 x3 x4 m_work H locs ls hq; exact False.elim hq
    | succ k7 ih7 =>
      intro x2 x3 x4 m_work H locs ls hq hP hD hS hl
      have B87 : ∀ (x2 : Int32) (x3 : Int32) (x4 : Int32) (x7 : Int32) (m_work : Nat → Int32) (H : Heap) (locs : List Loc) (ls : Array Slot), q7_layRow_87 m_n m_products (fun v0 v1 v2 v3 => q7_layRow_7 m_n m_products Q k7 v0 v1 v2 v3) Q x2 x3 x4 x7 m_work → va_P (dC, dI) vwCl (wX7 cs ad m_n m_order m_shelf m_opens m_lists m_listed m_work m_counts m_older m_products m_part m_parts m_ways m_used m_greaterNow m_countNow) H → va_D A (wX7 cs ad m_n m_order m_shelf m_opens m_lists m_listed m_work m_counts m_older m_products m_part m_parts m_ways m_used m_greaterNow m_countNow) → va_S A s.heap H locs → lv_has ls 8 [(0, .ref (ad 0)), (2, .int x2), (3, .int x3), (4, .int x4), (7, .int x7)] → W p l e ({ frames := 0, cells := 0, slots := 0, locals := 0 } : Room) s m ([.ref (ad 0), .int a1] : List Value).toArray below meth c H locs 0 0 (MQ below (va_Qv (fun (u : (Nat → Int32)) => Q u) (Bw (dC, dI) (KA cs) A (fun u : (Nat → Int32) => (wX7 cs ad m_n m_order m_shelf m_opens m_lists m_listed u m_counts m_older m_products m_part m_parts m_ways m_used m_greaterNow m_countNow))) A) ([.ref (ad 0), .int a1] : List Value).toArray s 0 0 A) (F0 m 87 ls []) := by
        intro x2 x3 x4 x7 m_work H locs ls hq hP hD hS hl
        unfold q7_layRow_87 at hq
        refine lv_iload_n hx hb dX7_layRow_87 rfl (lv_at hl 2 rfl) ?_
        refine lv_iconst (v := (1 : Int32)) hx hb dX7_layRow_88 (by decide) ?_
        refine lv_iload hx hb dX7_layRow_89 (lv_at hl 4 rfl) ?_
        refine lv_ishl hx hb dX7_layRow_91 ?_
        refine lv_ior hx hb dX7_layRow_92 ?_
        refine lv_istore_n (lv' := [(3, .int (x3 ||| ((1 : Int32) <<< (x7 &&& 31)))), (0, .ref (ad 0)), (2, .int x2), (4, .int x4), (7, .int x7)]) hx hb dX7_layRow_93 rfl hl (by decide) rfl (fun ls hl => ?_)
        refine lv_aload_n hx hb dX7_layRow_94 rfl (lv_at hl 1 rfl) ?_
        refine va_get (D := (dC, dI)) (ci := 7) (v := .ref (ad 5)) (C := RX7) (T := TX7) (N := 16) hx hb hts uwX7 hown hK hP 0 rfl rfl 6 (by decide) (hts _ fl_X7_29) (fun _ h9 => h9) rfl dX7_layRow_95 ?_
        refine lv_iload hx hb dX7_layRow_98 (lv_at hl 3 rfl) ?_
        refine lv_iload hx hb dX7_layRow_100 (lv_at hl 4 rfl) ?_
        obtain ⟨i9, hq⟩ := hq
        refine va_iast hx hb hK hP hD hS 5 0 rfl rfl i9 dX7_layRow_102 (fun H locs hP hD hS => ?_)
        have hP : va_P (dC, dI) vwCl (wX7 cs ad m_n m_order m_shelf m_opens m_lists m_listed (upd m_work x4.toNatClampNeg x7) m_counts m_older m_products m_part m_parts m_ways m_used m_greaterNow m_countNow) H := hP
        have hD : va_D A (wX7 cs ad m_n m_order m_shelf m_opens m_lists m_listed (upd m_work x4.toNatClampNeg x7) m_counts m_older m_products m_part m_parts m_ways m_used m_greaterNow m_countNow) := hD
        refine lv_iinc (v := (x4 + (1 : Int32))) (lv' := [(4, .int (x4 + (1 : Int32))), (3, .int (x3 ||| ((1 : Int32) <<< (x7 &&& 31)))), (0, .ref (ad 0)), (2, .int x2), (7, .int x7)]) hx hb dX7_layRow_103 hl (k := 3) rfl (by rfl) (by decide) rfl (fun ls hl => ?_)
        refine lv_goto (tgt := 7) hx hb dX7_layRow_106 (by decide) ?_
        exact ih7 x2 (x3 ||| ((1 : Int32) <<< (x7 &&& 31))) (x4 + (1 : Int32)) (upd m_work x4.toNatClampNeg x7) _ _ _ hq hP hD hS (lv_sub hl [2, 3, 1, 0] rfl)
      have B47 : ∀ (k47 : Nat) (x2 : Int32) (x3 : Int32) (x4 : Int32) (x6 : Int32) (x7 : Int32) (m_work : Nat → Int32) (H : Heap) (locs : List Loc) (ls : Array Slot), q7_layRow_47 m_n m_products (fun v0 v1 v2 v3 => q7_layRow_7 m_n m_products Q k7 v0 v1 v2 v3) Q k47 x2 x3 x4 x6 x7 m_work → va_P (dC, dI) vwCl (wX7 cs ad m_n m_order m_shelf m_opens m_lists m_listed m_work m_counts m_older m_products m_part m_parts m_ways m_used m_greaterNow m_countNow) H → va_D A (wX7 cs ad m_n m_order m_shelf m_opens m_lists m_listed m_work m_counts m_older m_products m_part m_parts m_ways m_used m_greaterNow m_countNow) → va_S A s.heap H locs → lv_has ls 8 [(0, .ref (ad 0)), (2, .int x2), (3, .int x3), (4, .int x4), (6, .int x6), (7, .int x7)] → W p l e ({ frames := 0, cells := 0, slots := 0, locals := 0 } : Room) s m ([.ref (ad 0), .int a1] : List Value).toArray below meth c H locs 0 0 (MQ below (va_Qv (fun (u : (Nat → Int32)) => Q u) (Bw (dC, dI) (KA cs) A (fun u : (Nat → Int32) => (wX7 cs ad m_n m_order m_shelf m_opens m_lists m_listed u m_counts m_older m_products m_part m_parts m_ways m_used m_greaterNow m_countNow))) A) ([.ref (ad 0), .int a1] : List Value).toArray s 0 0 A) (F0 m 47 ls []) := by
        intro k47
        induction k47 with
        | zero => intro x2 x3 x4 x6 x7 m_work H locs ls hq; exact False.elim hq
        | succ k47 ih47 =>
          intro x2 x3 x4 x6 x7 m_work H locs ls hq hP hD hS hl
          have B78 : ∀ (s0 : Int32) (s1 : Int32) (x2 : Int32) (x3 : Int32) (x4 : Int32) (x7 : Int32) (m_work : Nat → Int32) (H : Heap) (locs : List Loc) (ls : Array Slot), q7_layRow_78 m_n m_products (fun v0 v1 v2 v3 => q7_layRow_7 m_n m_products Q k7 v0 v1 v2 v3) (fun v0 v1 v2 v3 v4 v5 => q7_layRow_47 m_n m_products (fun v0 v1 v2 v3 => q7_layRow_7 m_n m_products Q k7 v0 v1 v2 v3) Q k47 v0 v1 v2 v3 v4 v5) Q s0 s1 x2 x3 x4 x7 m_work → va_P (dC, dI) vwCl (wX7 cs ad m_n m_order m_shelf m_opens m_lists m_listed m_work m_counts m_older m_products m_part m_parts m_ways m_used m_greaterNow m_countNow) H → va_D A (wX7 cs ad m_n m_order m_shelf m_opens m_lists m_listed m_work m_counts m_older m_products m_part m_parts m_ways m_used m_greaterNow m_countNow) → va_S A s.heap H locs → lv_has ls 8 [(0, .ref (ad 0)), (2, .int x2), (3, .int x3), (4, .int x4), (7, .int x7)] → W p l e ({ frames := 0, cells := 0, slots := 0, locals := 0 } : Room) s m ([.ref (ad 0), .int a1] : List Value).toArray below meth c H locs 0 0 (MQ below (va_Qv (fun (u : (Nat → Int32)) => Q u) (Bw (dC, dI) (KA cs) A (fun u : (Nat → Int32) => (wX7 cs ad m_n m_order m_shelf m_opens m_lists m_listed u m_counts m_older m_products m_part m_parts m_ways m_used m_greaterNow m_countNow))) A) ([.ref (ad 0), .int a1] : List Value).toArray s 0 0 A) (F0 m 78 ls [.int s1, .int s0]) := by
            intro s0 s1 x2 x3 x4 x7 m_work H locs ls hq hP hD hS hl
            unfold q7_layRow_78 at hq
            refine lv_isub hx hb dX7_layRow_78 ?_
            refine lv_istore (lv' := [(6, .int (s0 - s1)), (0, .ref (ad 0)), (2, .int x2), (3, .int x3), (4, .int x4), (7, .int x7)]) hx hb dX7_layRow_79 hl (by decide) rfl (fun ls hl => ?_)
            refine lv_iinc (v := (x7 + (1 : Int32))) (lv' := [(7, .int (x7 + (1 : Int32))), (6, .int (s0 - s1)), (0, .ref (ad 0)), (2, .int x2), (3, .int x3), (4, .int x4)]) hx hb dX7_layRow_81 hl (k := 5) rfl (by rfl) (by decide) rfl (fun ls hl => ?_)
            refine lv_goto (tgt := 47) hx hb dX7_layRow_84 (by decide) ?_
            exact ih47 x2 x3 x4 (s0 - s1) (x7 + (1 : Int32)) m_work _ _ _ hq hP hD hS (lv_sub hl [2, 3, 4, 5, 1, 0] rfl)
          have B62 : ∀ (x2 : Int32) (x3 : Int32) (x4 : Int32) (x6 : Int32) (x7 : Int32) (m_work : Nat → Int32) (H : Heap) (locs : List Loc) (ls : Array Slot), q7_layRow_62 m_n m_products (fun v0 v1 v2 v3 => q7_layRow_7 m_n m_products Q k7 v0 v1 v2 v3) (fun v0 v1 v2 v3 v4 v5 => q7_layRow_47 m_n m_products (fun v0 v1 v2 v3 => q7_layRow_7 m_n m_products Q k7 v0 v1 v2 v3) Q k47 v0 v1 v2 v3 v4 v5) Q x2 x3 x4 x6 x7 m_work → va_P (dC, dI) vwCl (wX7 cs ad m_n m_order m_shelf m_opens m_lists m_listed m_work m_counts m_older m_products m_part m_parts m_ways m_used m_greaterNow m_countNow) H → va_D A (wX7 cs ad m_n m_order m_shelf m_opens m_lists m_listed m_work m_counts m_older m_products m_part m_parts m_ways m_used m_greaterNow m_countNow) → va_S A s.heap H locs → lv_has ls 8 [(0, .ref (ad 0)), (2, .int x2), (3, .int x3), (4, .int x4), (6, .int x6), (7, .int x7)] → W p l e ({ frames := 0, cells := 0, slots := 0, locals := 0 } : Room) s m ([.ref (ad 0), .int a1] : List Value).toArray below meth c H locs 0 0 (MQ below (va_Qv (fun (u : (Nat → Int32)) => Q u) (Bw (dC, dI) (KA cs) A (fun u : (Nat → Int32) => (wX7 cs ad m_n m_order m_shelf m_opens m_lists m_listed u m_counts m_older m_products m_part m_parts m_ways m_used m_greaterNow m_countNow))) A) ([.ref (ad 0), .int a1] : List Value).toArray s 0 0 A) (F0 m 62 ls []) := by
            intro x2 x3 x4 x6 x7 m_work H locs ls hq hP hD hS hl
            unfold q7_layRow_62 at hq
            refine lv_iload hx hb dX7_layRow_62 (lv_at hl 4 rfl) ?_
            refine lv_iload_n hx hb dX7_layRow_64 rfl (lv_at hl 2 rfl) ?_
            refine lv_iload hx hb dX7_layRow_65 (lv_at hl 5 rfl) ?_
            refine lv_ishr hx hb dX7_layRow_67 ?_
            refine lv_iconst (v := (1 : Int32)) hx hb dX7_layRow_68 (by decide) ?_
            refine lv_iand hx hb dX7_layRow_69 ?_
            refine lv_if_ne (tgt := 77) hx hb dX7_layRow_70 (by decide) (fun c10 => ?_) (fun c10 => ?_)
            · have hq := hq.1 c10
              refine lv_iconst (v := (0 : Int32)) hx hb dX7_layRow_77 (by decide) ?_
              exact B78 x6 (0 : Int32) x2 x3 x4 x7 m_work _ _ _ hq hP hD hS (lv_sub hl [0, 1, 2, 3, 5] rfl)
            · have hq := hq.2 c10
              refine lv_iconst (v := (1 : Int32)) hx hb dX7_layRow_73 (by decide) ?_
              refine lv_goto (tgt := 78) hx hb dX7_layRow_74 (by decide) ?_
              exact B78 x6 (1 : Int32) x2 x3 x4 x7 m_work _ _ _ hq hP hD hS (lv_sub hl [0, 1, 2, 3, 5] rfl)
          unfold q7_layRow_47 at hq
          refine lv_iload_n hx hb dX7_layRow_47 rfl (lv_at hl 2 rfl) ?_
          refine lv_iload hx hb dX7_layRow_48 (lv_at hl 5 rfl) ?_
          refine lv_ishr hx hb dX7_layRow_50 ?_
          refine lv_iconst (v := (1 : Int32)) hx hb dX7_layRow_51 (by decide) ?_
          refine lv_iand hx hb dX7_layRow_52 ?_
          refine lv_iconst (v := (1 : Int32)) hx hb dX7_layRow_53 (by decide) ?_
          refine lv_icmp_eq (tgt := 62) hx hb dX7_layRow_54 (by decide) (fun c11 => ?_) (fun c11 => ?_)
          · have hq := hq.1 c11
            exact B62 x2 x3 x4 x6 x7 m_work _ _ _ hq hP hD hS (lv_sub hl [0, 1, 2, 3, 4, 5] rfl)
          · have hq := hq.2 c11
            refine lv_iload hx hb dX7_layRow_57 (lv_at hl 4 rfl) ?_
            refine lv_if_le (tgt := 87) hx hb dX7_layRow_59 (by decide) (fun c12 => ?_) (fun c12 => ?_)
            · have hq := hq.1 c12
              exact B87 x2 x3 x4 x7 m_work _ _ _ hq hP hD hS (lv_sub hl [0, 1, 2, 3, 5] rfl)
            · have hq := hq.2 c12
              exact B62 x2 x3 x4 x6 x7 m_work _ _ _ hq hP hD hS (lv_sub hl [0, 1, 2, 3, 4, 5] rfl)
      unfold q7_layRow_7 at hq
      refine lv_iload hx hb dX7_layRow_7 (lv_at hl 3 rfl) ?_
      refine lv_aload_n hx hb dX7_layRow_9 rfl (lv_at hl 0 rfl) ?_
      refine va_get (D := (dC, dI)) (ci := 7) (v := .int m_n) (C := RX7) (T := TX7) (N := 16) hx hb hts uwX7 hown hK hP 0 rfl rfl 0 (by decide) (hts _ fl_X7_7) (fun _ h9 => h9) rfl dX7_layRow_10 ?_
      refine lv_icmp_ge (tgt := 109) hx hb dX7_layRow_13 (by decide) (fun c13 => ?_) (fun c13 => ?_)
      · have hq := hq.1 c13
        exact W.vret hx hb hr (fun t ht hW => ⟨⟨m_work, rfl, hq, Bw_mk (by rw [ht]; exact hP) (va_K.moved hW.alike hK) hD⟩, hS.F ht⟩) hS.2.2 dX7_layRow_109
      · have hq := hq.2 c13
        refine lv_aload_n hx hb dX7_layRow_16 rfl (lv_at hl 0 rfl) ?_
        refine va_get (D := (dC, dI)) (ci := 7) (v := .ref (ad 8)) (C := RX7) (T := TX7) (N := 16) hx hb hts uwX7 hown hK hP 0 rfl rfl 9 (by decide) (hts _ fl_X7_39) (fun _ h9 => h9) rfl dX7_layRow_17 ?_
        refine lv_aload_n hx hb dX7_layRow_20 rfl (lv_at hl 0 rfl) ?_
        refine va_get (D := (dC, dI)) (ci := 7) (v := .int m_n) (C := RX7) (T := TX7) (N := 16) hx hb hts uwX7 hown hK hP 0 rfl rfl 0 (by decide) (hts _ fl_X7_7) (fun _ h9 => h9) rfl dX7_layRow_21 ?_
        refine lv_iconst (v := (1 : Int32)) hx hb dX7_layRow_24 (by decide) ?_
        refine lv_isub hx hb dX7_layRow_25 ?_
        refine lv_iload hx hb dX7_layRow_26 (lv_at hl 3 rfl) ?_
        refine lv_isub hx hb dX7_layRow_28 ?_
        obtain ⟨i14, hq⟩ := hq
        refine va_lald hx hb hK hP 8 1 rfl rfl i14 dX7_layRow_29 ?_
        refine lv_l2i (v := (m_products ((m_n - (1 : Int32)) - x4).toNatClampNeg).toInt32) hx hb dX7_layRow_30 rfl ?_
        refine lv_istore (lv' := [(5, .int ((m_products ((m_n - (1 : Int32)) - x4).toNatClampNeg).toInt32)), (0, .ref (ad 0)), (2, .int x2), (3, .int x3), (4, .int x4)]) hx hb dX7_layRow_31 hl (by decide) rfl (fun ls hl => ?_)
        refine lv_iload_n hx hb dX7_layRow_33 rfl (lv_at hl 2 rfl) ?_
        refine lv_iload hx hb dX7_layRow_34 (lv_at hl 0 rfl) ?_
        obtain ⟨z15, hq⟩ := hq
        refine lv_idiv hx hb dX7_layRow_36 z15 ?_
        refine lv_istore (lv' := [(6, .int (x2 / (m_products ((m_n - (1 : Int32)) - x4).toNatClampNeg).toInt32)), (5, .int ((m_products ((m_n - (1 : Int32)) - x4).toNatClampNeg).toInt32)), (0, .ref (ad 0)), (2, .int x2), (3, .int x3), (4, .int x4)]) hx hb dX7_layRow_37 hl (by decide) rfl (fun ls hl => ?_)
        refine lv_iload_n hx hb dX7_layRow_39 rfl (lv_at hl 3 rfl) ?_
        refine lv_iload hx hb dX7_layRow_40 (lv_at hl 1 rfl) ?_
        obtain ⟨z16, hq⟩ := hq
        refine lv_irem hx hb dX7_layRow_42 z16 ?_
        refine lv_istore_n (lv' := [(2, .int (x2 - x2 / (m_products ((m_n - (1 : Int32)) - x4).toNatClampNeg).toInt32 * (m_products ((m_n - (1 : Int32)) - x4).toNatClampNeg).toInt32)), (6, .int (x2 / (m_products ((m_n - (1 : Int32)) - x4).toNatClampNeg).toInt32)), (5, .int ((m_products ((m_n - (1 : Int32)) - x4).toNatClampNeg).toInt32)), (0, .ref (ad 0)), (3, .int x3), (4, .int x4)]) hx hb dX7_layRow_43 rfl hl (by decide) rfl (fun ls hl => ?_)
        refine lv_iconst (v := (0 : Int32)) hx hb dX7_layRow_44 (by decide) ?_
        refine lv_istore (lv' := [(7, .int (0 : Int32)), (2, .int (x2 - x2 / (m_products ((m_n - (1 : Int32)) - x4).toNatClampNeg).toInt32 * (m_products ((m_n - (1 : Int32)) - x4).toNatClampNeg).toInt32)), (6, .int (x2 / (m_products ((m_n - (1 : Int32)) - x4).toNatClampNeg).toInt32)), (5, .int ((m_products ((m_n - (1 : Int32)) - x4).toNatClampNeg).toInt32)), (0, .ref (ad 0)), (3, .int x3), (4, .int x4)]) hx hb dX7_layRow_45 hl (by decide) rfl (fun ls hl => ?_)
        obtain ⟨kf, hq⟩ := hq
        exact B47 kf (x2 - x2 / (m_products ((m_n - (1 : Int32)) - x4).toNatClampNeg).toInt32 * (m_products ((m_n - (1 : Int32)) - x4).toNatClampNeg).toInt32) x3 x4 (x2 / (m_products ((m_n - (1 : Int32)) - x4).toNatClampNeg).toInt32) (0 : Int32) m_work _ _ _ hq hP hD hS (lv_sub hl [4, 1, 5, 6, 2, 0] rfl)
  unfold q7_layRow at hq
  refine lv_iload_n hx hb dX7_layRow_0 rfl (lv_at hl 1 rfl) ?_
  refine lv_istore_n (lv' := [(2, .int a1), (0, .ref (ad 0)), (1, .int a1)]) hx hb dX7_layRow_1 rfl hl (by decide) rfl (fun ls hl => ?_)
  refine lv_iconst (v := (0 : Int32)) hx hb dX7_layRow_2 (by decide) ?_
  refine lv_istore_n (lv' := [(3, .int (0 : Int32)), (2, .int a1), (0, .ref (ad 0)), (1, .int a1)]) hx hb dX7_layRow_3 rfl hl (by decide) rfl (fun ls hl => ?_)
  refine lv_iconst (v := (0 : Int32)) hx hb dX7_layRow_4 (by decide) ?_
  refine lv_istore (lv' := [(4, .int (0 : Int32)), (3, .int (0 : Int32)), (2, .int a1), (0, .ref (ad 0)), (1, .int a1)]) hx hb dX7_layRow_5 hl (by decide) rfl (fun ls hl => ?_)
  obtain ⟨kf, hq⟩ := hq
  exact B7 kf a1 (0 : Int32) (0 : Int32) m_work _ _ _ hq hP hD hS (lv_sub hl [3, 2, 1, 0] rfl)
set_option maxHeartbeats 4000000 in
set_option maxRecDepth 100000 in
theorem c7_allWin (l : Launch) (dC : Nat → ClassId) (dI : Nat → Nat → Nat) (cs : Nat → ClassId) (ad : Nat → Nat) (sz : Nat) (m_n : Int32) (m_order : Nat → Int32) (m_shelf : Nat → Int32) (m_opens : Int32) (m_lists : Nat → Int32) (m_listed : Nat → Int32) (m_work : Nat → Int32) (m_counts : Nat → Int64) (m_older : Nat → Int64) (m_products : Nat → Int64) (m_part : Nat → Int32) (m_parts : Int32) (m_ways : Nat → Int64) (m_used : Int32) (m_greaterNow : Int32) (m_countNow : Int32) (a1 : Int32) {Q : Int64 → (Nat → Int32) → (Nat → Int64) → (Nat → Int64) → (Nat → Int64) → (Nat → Int32) → Int32 → Prop} (hq : q7_allWin m_n m_opens m_lists m_listed m_work m_counts m_older m_products m_part m_parts a1 Q) : Met l yX7_allWin (.code yX7_allWin cX7_allWin 7 (some .long) :: gt) ({ frames := 4, cells := 0, slots := 0, locals := 97 } : Room) (va_Pc [.ref (ad 0), .int a1] (Pw (dC, dI) (KA cs) (wX7 cs ad m_n m_order m_shelf m_opens m_lists m_listed m_work m_counts m_older m_products m_part m_parts m_ways m_used m_greaterNow m_countNow) sz)) (va_Ql (fun (r : Int64) (u : (Nat → Int32) × (Nat → Int64) × (Nat → Int64) × (Nat → Int64) × (Nat → Int32) × Int32) => Q r u.1 u.2.1 u.2.2.1 u.2.2.2.1 u.2.2.2.2.1 u.2.2.2.2.2) (Bw (dC, dI) (KA cs) (va_A (wX7 cs ad m_n m_order m_shelf m_opens m_lists m_listed m_work m_counts m_older m_products m_part m_parts m_ways m_used m_greaterNow m_countNow) sz) (fun u : (Nat → Int32) × (Nat → Int64) × (Nat → Int64) × (Nat → Int64) × (Nat → Int32) × Int32 => (wX7 cs ad m_n m_order m_shelf m_opens m_lists m_listed u.1 u.2.1 u.2.2.1 u.2.2.2.1 u.2.2.2.2.1 u.2.2.2.2.2 m_ways m_used m_greaterNow m_countNow))) (va_A (wX7 cs ad m_n m_order m_shelf m_opens m_lists m_listed m_work m_counts m_older m_products m_part m_parts m_ways m_used m_greaterNow m_countNow) sz)) 0 0 (va_A (wX7 cs ad m_n m_order m_shelf m_opens m_lists m_listed m_work m_counts m_older m_products m_part m_parts m_ways m_used m_greaterNow m_countNow) sz) := by
  refine Met.ofW (cc := cX7_allWin) (maxL := 7) (ret := (some .long)) (by decide) rfl ?_
  intro p e s m args below meth c s₁ B hml hv
  obtain ⟨rfl, hsz, hP, hK, hD0, hN⟩ := hv
  have hx := B.exec
  have hb := B.bytes
  have hr := B.returns
  have hts0 := atoms_spec (ws := (.code yX7_allWin cX7_allWin 7 (some .long) :: gt)) B.pre
  have hts : ∀ w ∈ gt, w.before _ s = true := fun w h => hts0 w (List.mem_cons_of_mem _ h)
  have hown : s.vm.findClass RX7 = some m.cls := findClass_of_methodNamed B.named
  have hlocks := B.notSynchronized
  subst hsz
  have hD := hD0.self (sz := s.heap.size)
  generalize hAe : va_A (wX7 cs ad m_n m_order m_shelf m_opens m_lists m_listed m_work m_counts m_older m_products m_part m_parts m_ways m_used m_greaterNow m_countNow) s.heap.size = A at hD ⊢
  have hA : ∀ q : Nat, s.heap.size ≤ q → A q := fun q h => by rw [← hAe]; exact Or.inr h
  have hS : va_S A s.heap s.heap [] := va_S.rf
  have hl := lv_entry ([.ref (ad 0), .int a1]) (n := 7) (Nat.le_of_ble_eq_true rfl)
  rw [lg_entry_eq]
  generalize (lg_sl ([.ref (ad 0), .int a1]) ++ List.replicate (7 - (lg_sl ([.ref (ad 0), .int a1])).length) Slot.unset).toArray = ls at hl ⊢
  have hl : lv_has ls 7 [(0, .ref (ad 0)), (1, .int a1)] := hl
  have B74 : ∀ (k74 : Nat) (x1 : Int32) (x2 : Int64) (x4 : Int32) (m_work : Nat → Int32) (m_counts : Nat → Int64) (m_older : Nat → Int64) (m_products : Nat → Int64) (m_part : Nat → Int32) (m_parts : Int32) (H : Heap) (locs : List Loc) (ls : Array Slot), q7_allWin_74 m_n m_opens m_lists m_listed Q k74 x1 x2 x4 m_work m_counts m_older m_products m_part m_parts → va_P (dC, dI) vwCl (wX7 cs ad m_n m_order m_shelf m_opens m_lists m_listed m_work m_counts m_older m_products m_part m_parts m_ways m_used m_greaterNow m_countNow) H → va_D A (wX7 cs ad m_n m_order m_shelf m_opens m_lists m_listed m_work m_counts m_older m_products m_part m_parts m_ways m_used m_greaterNow m_countNow) → va_S A s.heap H locs → lv_has ls 7 [(0, .ref (ad 0)), (1, .int x1), (2, .long x2), (4, .int x4)] → W p l e ({ frames := 4, cells := 0, slots := 0, locals := 97 } : Room) s m ([.ref (ad 0), .int a1] : List Value).toArray below meth c H locs 0 0 (MQ below (va_Ql (fun (r : Int64) (u : (Nat → Int32) × (Nat → Int64) × (Nat → Int64) × (Nat → Int64) × (Nat → Int32) × Int32) => Q r u.1 u.2.1 u.2.2.1 u.2.2.2.1 u.2.2.2.2.1 u.2.2.2.2.2) (Bw (dC, dI) (KA cs) A (fun u : (Nat → Int32) × (Nat → Int64) × (Nat → Int64) × (Nat → Int64) × (Nat → Int32) × Int32 => (wX7 cs ad m_n m_order m_shelf m_opens m_lists m_listed u.1 u.2.1 u.2.2.1 u.2.2.2.1 u.2.2.2.2.1 u.2.2.2.2.2 m_ways m_used m_greaterNow m_countNow))) A) ([.ref (ad 0), .int a1] : List Value).toArray s 0 0 A) (F0 m 74 ls []) := by
    intro k74
    induction k74 with
    | zero => intro x1 x2 x4 m_work m_counts m_older m_products m_part m_parts H locs ls hq; exact False.elim hq
    | succ k74 ih74 =>
      intro x1 x2 x4 m_work m_counts m_older m_products m_part m_parts H locs ls hq hP hD hS hl
      have B158 : ∀ (s0 : Int64) (s1 : Int64) (x1 : Int32) (x4 : Int32) (m_work : Nat → Int32) (m_counts : Nat → Int64) (m_older : Nat → Int64) (m_products : Nat → Int64) (m_part : Nat → Int32) (m_parts : Int32) (H : Heap) (locs : List Loc) (ls : Array Slot), q7_allWin_158 m_n m_opens m_lists m_listed (fun v0 v1 v2 v3 v4 v5 v6 v7 v8 => q7_allWin_74 m_n m_opens m_lists m_listed Q k74 v0 v1 v2 v3 v4 v5 v6 v7 v8) Q s0 s1 x1 x4 m_work m_counts m_older m_products m_part m_parts → va_P (dC, dI) vwCl (wX7 cs ad m_n m_order m_shelf m_opens m_lists m_listed m_work m_counts m_older m_products m_part m_parts m_ways m_used m_greaterNow m_countNow) H → va_D A (wX7 cs ad m_n m_order m_shelf m_opens m_lists m_listed m_work m_counts m_older m_products m_part m_parts m_ways m_used m_greaterNow m_countNow) → va_S A s.heap H locs → lv_has ls 7 [(0, .ref (ad 0)), (1, .int x1), (4, .int x4)] → W p l e ({ frames := 4, cells := 0, slots := 0, locals := 97 } : Room) s m ([.ref (ad 0), .int a1] : List Value).toArray below meth c H locs 0 0 (MQ below (va_Ql (fun (r : Int64) (u : (Nat → Int32) × (Nat → Int64) × (Nat → Int64) × (Nat → Int64) × (Nat → Int32) × Int32) => Q r u.1 u.2.1 u.2.2.1 u.2.2.2.1 u.2.2.2.2.1 u.2.2.2.2.2) (Bw (dC, dI) (KA cs) A (fun u : (Nat → Int32) × (Nat → Int64) × (Nat → Int64) × (Nat → Int64) × (Nat → Int32) × Int32 => (wX7 cs ad m_n m_order m_shelf m_opens m_lists m_listed u.1 u.2.1 u.2.2.1 u.2.2.2.1 u.2.2.2.2.1 u.2.2.2.2.2 m_ways m_used m_greaterNow m_countNow))) A) ([.ref (ad 0), .int a1] : List Value).toArray s 0 0 A) (F0 m 158 ls [.long s1, .long s0]) := by
        intro s0 s1 x1 x4 m_work m_counts m_older m_products m_part m_parts H locs ls hq hP hD hS hl
        unfold q7_allWin_158 at hq
        refine lv_ladd hx hb dX7_allWin_158 ?_
        refine lv_lstore_n (lv' := [(2, .long (s0 + s1)), (0, .ref (ad 0)), (1, .int x1), (4, .int x4)]) hx hb dX7_allWin_159 rfl hl (by decide) rfl (fun ls hl => ?_)
        refine lv_iinc (v := (x4 + (1 : Int32))) (lv' := [(4, .int (x4 + (1 : Int32))), (2, .long (s0 + s1)), (0, .ref (ad 0)), (1, .int x1)]) hx hb dX7_allWin_160 hl (k := 3) rfl (by rfl) (by decide) rfl (fun ls hl => ?_)
        refine lv_goto (tgt := 74) hx hb dX7_allWin_163 (by decide) ?_
        exact ih74 x1 (s0 + s1) (x4 + (1 : Int32)) m_work m_counts m_older m_products m_part m_parts _ _ _ hq hP hD hS (lv_sub hl [2, 3, 1, 0] rfl)
      have B147 : ∀ (x1 : Int32) (x2 : Int64) (x4 : Int32) (x5 : Int32) (m_work : Nat → Int32) (m_counts : Nat → Int64) (m_older : Nat → Int64) (m_products : Nat → Int64) (m_part : Nat → Int32) (m_parts : Int32) (H : Heap) (locs : List Loc) (ls : Array Slot), q7_allWin_147 m_n m_opens m_lists m_listed (fun v0 v1 v2 v3 v4 v5 v6 v7 v8 => q7_allWin_74 m_n m_opens m_lists m_listed Q k74 v0 v1 v2 v3 v4 v5 v6 v7 v8) Q x1 x2 x4 x5 m_work m_counts m_older m_products m_part m_parts → va_P (dC, dI) vwCl (wX7 cs ad m_n m_order m_shelf m_opens m_lists m_listed m_work m_counts m_older m_products m_part m_parts m_ways m_used m_greaterNow m_countNow) H → va_D A (wX7 cs ad m_n m_order m_shelf m_opens m_lists m_listed m_work m_counts m_older m_products m_part m_parts m_ways m_used m_greaterNow m_countNow) → va_S A s.heap H locs → lv_has ls 7 [(0, .ref (ad 0)), (1, .int x1), (2, .long x2), (4, .int x4), (5, .int x5)] → W p l e ({ frames := 4, cells := 0, slots := 0, locals := 97 } : Room) s m ([.ref (ad 0), .int a1] : List Value).toArray below meth c H locs 0 0 (MQ below (va_Ql (fun (r : Int64) (u : (Nat → Int32) × (Nat → Int64) × (Nat → Int64) × (Nat → Int64) × (Nat → Int32) × Int32) => Q r u.1 u.2.1 u.2.2.1 u.2.2.2.1 u.2.2.2.2.1 u.2.2.2.2.2) (Bw (dC, dI) (KA cs) A (fun u : (Nat → Int32) × (Nat → Int64) × (Nat → Int64) × (Nat → Int64) × (Nat → Int32) × Int32 => (wX7 cs ad m_n m_order m_shelf m_opens m_lists m_listed u.1 u.2.1 u.2.2.1 u.2.2.2.1 u.2.2.2.2.1 u.2.2.2.2.2 m_ways m_used m_greaterNow m_countNow))) A) ([.ref (ad 0), .int a1] : List Value).toArray s 0 0 A) (F0 m 147 ls []) := by
        intro x1 x2 x4 x5 m_work m_counts m_older m_products m_part m_parts H locs ls hq hP hD hS hl
        unfold q7_allWin_147 at hq
        refine lv_lload_n hx hb dX7_allWin_147 rfl (lv_at hl 2 rfl) ?_
        refine lv_iload hx hb dX7_allWin_148 (lv_at hl 4 rfl) ?_
        refine lv_if_eq (tgt := 157) hx hb dX7_allWin_150 (by decide) (fun c24 => ?_) (fun c24 => ?_)
        · have hq := hq.1 c24
          refine lv_lconst (v := (0 : Int64)) hx hb dX7_allWin_157 (by decide) ?_
          exact B158 x2 (0 : Int64) x1 x4 m_work m_counts m_older m_products m_part m_parts _ _ _ hq hP hD hS (lv_sub hl [0, 1, 3] rfl)
        · have hq := hq.2 c24
          refine lv_lconst (v := (1 : Int64)) hx hb dX7_allWin_153 (by decide) ?_
          refine lv_goto (tgt := 158) hx hb dX7_allWin_154 (by decide) ?_
          exact B158 x2 (1 : Int64) x1 x4 m_work m_counts m_older m_products m_part m_parts _ _ _ hq hP hD hS (lv_sub hl [0, 1, 3] rfl)
      have B107 : ∀ (k107 : Nat) (x1 : Int32) (x2 : Int64) (x4 : Int32) (x5 : Int32) (x6 : Int32) (m_work : Nat → Int32) (m_counts : Nat → Int64) (m_older : Nat → Int64) (m_products : Nat → Int64) (m_part : Nat → Int32) (m_parts : Int32) (H : Heap) (locs : List Loc) (ls : Array Slot), q7_allWin_107 m_n m_opens m_lists m_listed (fun v0 v1 v2 v3 v4 v5 v6 v7 v8 => q7_allWin_74 m_n m_opens m_lists m_listed Q k74 v0 v1 v2 v3 v4 v5 v6 v7 v8) Q k107 x1 x2 x4 x5 x6 m_work m_counts m_older m_products m_part m_parts → va_P (dC, dI) vwCl (wX7 cs ad m_n m_order m_shelf m_opens m_lists m_listed m_work m_counts m_older m_products m_part m_parts m_ways m_used m_greaterNow m_countNow) H → va_D A (wX7 cs ad m_n m_order m_shelf m_opens m_lists m_listed m_work m_counts m_older m_products m_part m_parts m_ways m_used m_greaterNow m_countNow) → va_S A s.heap H locs → lv_has ls 7 [(0, .ref (ad 0)), (1, .int x1), (2, .long x2), (4, .int x4), (5, .int x5), (6, .int x6)] → W p l e ({ frames := 4, cells := 0, slots := 0, locals := 97 } : Room) s m ([.ref (ad 0), .int a1] : List Value).toArray below meth c H locs 0 0 (MQ below (va_Ql (fun (r : Int64) (u : (Nat → Int32) × (Nat → Int64) × (Nat → Int64) × (Nat → Int64) × (Nat → Int32) × Int32) => Q r u.1 u.2.1 u.2.2.1 u.2.2.2.1 u.2.2.2.2.1 u.2.2.2.2.2) (Bw (dC, dI) (KA cs) A (fun u : (Nat → Int32) × (Nat → Int64) × (Nat → Int64) × (Nat → Int64) × (Nat → Int32) × Int32 => (wX7 cs ad m_n m_order m_shelf m_opens m_lists m_listed u.1 u.2.1 u.2.2.1 u.2.2.2.1 u.2.2.2.2.1 u.2.2.2.2.2 m_ways m_used m_greaterNow m_countNow))) A) ([.ref (ad 0), .int a1] : List Value).toArray s 0 0 A) (F0 m 107 ls []) := by
        intro k107
        induction k107 with
        | zero => intro x1 x2 x4 x5 x6 m_work m_counts m_older m_products m_part m_parts H locs ls hq; exact False.elim hq
        | succ k107 ih107 =>
          intro x1 x2 x4 x5 x6 m_work m_counts m_older m_products m_part m_parts H locs ls hq hP hD hS hl
          have B139 : ∀ (s0 : Int32) (x1 : Int32) (x2 : Int64) (x4 : Int32) (x6 : Int32) (m_work : Nat → Int32) (m_counts : Nat → Int64) (m_older : Nat → Int64) (m_products : Nat → Int64) (m_part : Nat → Int32) (m_parts : Int32) (H : Heap) (locs : List Loc) (ls : Array Slot), q7_allWin_139 m_n m_opens m_lists m_listed (fun v0 v1 v2 v3 v4 v5 v6 v7 v8 => q7_allWin_74 m_n m_opens m_lists m_listed Q k74 v0 v1 v2 v3 v4 v5 v6 v7 v8) (fun v0 v1 v2 v3 v4 v5 v6 v7 v8 v9 v10 => q7_allWin_107 m_n m_opens m_lists m_listed (fun v0 v1 v2 v3 v4 v5 v6 v7 v8 => q7_allWin_74 m_n m_opens m_lists m_listed Q k74 v0 v1 v2 v3 v4 v5 v6 v7 v8) Q k107 v0 v1 v2 v3 v4 v5 v6 v7 v8 v9 v10) Q s0 x1 x2 x4 x6 m_work m_counts m_older m_products m_part m_parts → va_P (dC, dI) vwCl (wX7 cs ad m_n m_order m_shelf m_opens m_lists m_listed m_work m_counts m_older m_products m_part m_parts m_ways m_used m_greaterNow m_countNow) H → va_D A (wX7 cs ad m_n m_order m_shelf m_opens m_lists m_listed m_work m_counts m_older m_products m_part m_parts m_ways m_used m_greaterNow m_countNow) → va_S A s.heap H locs → lv_has ls 7 [(0, .ref (ad 0)), (1, .int x1), (2, .long x2), (4, .int x4), (6, .int x6)] → W p l e ({ frames := 4, cells := 0, slots := 0, locals := 97 } : Room) s m ([.ref (ad 0), .int a1] : List Value).toArray below meth c H locs 0 0 (MQ below (va_Ql (fun (r : Int64) (u : (Nat → Int32) × (Nat → Int64) × (Nat → Int64) × (Nat → Int64) × (Nat → Int32) × Int32) => Q r u.1 u.2.1 u.2.2.1 u.2.2.2.1 u.2.2.2.2.1 u.2.2.2.2.2) (Bw (dC, dI) (KA cs) A (fun u : (Nat → Int32) × (Nat → Int64) × (Nat → Int64) × (Nat → Int64) × (Nat → Int32) × Int32 => (wX7 cs ad m_n m_order m_shelf m_opens m_lists m_listed u.1 u.2.1 u.2.2.1 u.2.2.2.1 u.2.2.2.2.1 u.2.2.2.2.2 m_ways m_used m_greaterNow m_countNow))) A) ([.ref (ad 0), .int a1] : List Value).toArray s 0 0 A) (F0 m 139 ls [.int s0]) := by
            intro s0 x1 x2 x4 x6 m_work m_counts m_older m_products m_part m_parts H locs ls hq hP hD hS hl
            unfold q7_allWin_139 at hq
            refine lv_istore (lv' := [(5, .int s0), (0, .ref (ad 0)), (1, .int x1), (2, .long x2), (4, .int x4), (6, .int x6)]) hx hb dX7_allWin_139 hl (by decide) rfl (fun ls hl => ?_)
            refine lv_iinc (v := (x6 + (1 : Int32))) (lv' := [(6, .int (x6 + (1 : Int32))), (5, .int s0), (0, .ref (ad 0)), (1, .int x1), (2, .long x2), (4, .int x4)]) hx hb dX7_allWin_141 hl (k := 5) rfl (by rfl) (by decide) rfl (fun ls hl => ?_)
            refine lv_goto (tgt := 107) hx hb dX7_allWin_144 (by decide) ?_
            exact ih107 x1 x2 x4 s0 (x6 + (1 : Int32)) m_work m_counts m_older m_products m_part m_parts _ _ _ hq hP hD hS (lv_sub hl [2, 3, 4, 5, 1, 0] rfl)
          unfold q7_allWin_107 at hq
          refine lv_iload hx hb dX7_allWin_107 (lv_at hl 5 rfl) ?_
          refine lv_aload_n hx hb dX7_allWin_109 rfl (lv_at hl 0 rfl) ?_
          refine va_get (D := (dC, dI)) (ci := 7) (v := .int m_n) (C := RX7) (T := TX7) (N := 16) hx hb hts uwX7 hown hK hP 0 rfl rfl 0 (by decide) (hts _ fl_X7_7) (fun _ h9 => h9) rfl dX7_allWin_110 ?_
          refine lv_icmp_ge (tgt := 147) hx hb dX7_allWin_113 (by decide) (fun c25 => ?_) (fun c25 => ?_)
          · have hq := hq.1 c25
            exact B147 x1 x2 x4 x5 m_work m_counts m_older m_products m_part m_parts _ _ _ hq hP hD hS (lv_sub hl [0, 1, 2, 3, 4] rfl)
          · have hq := hq.2 c25
            refine lv_iload hx hb dX7_allWin_116 (lv_at hl 4 rfl) ?_
            refine lv_if_eq (tgt := 138) hx hb dX7_allWin_118 (by decide) (fun c26 => ?_) (fun c26 => ?_)
            · have hq := hq.1 c26
              refine lv_iconst (v := (0 : Int32)) hx hb dX7_allWin_138 (by decide) ?_
              exact B139 (0 : Int32) x1 x2 x4 x6 m_work m_counts m_older m_products m_part m_parts _ _ _ hq hP hD hS (lv_sub hl [0, 1, 2, 3, 5] rfl)
            · have hq := hq.2 c26
              refine lv_aload_n hx hb dX7_allWin_121 rfl (lv_at hl 0 rfl) ?_
              refine lv_aload_n hx hb dX7_allWin_122 rfl (lv_at hl 0 rfl) ?_
              refine va_get (D := (dC, dI)) (ci := 7) (v := .ref (ad 5)) (C := RX7) (T := TX7) (N := 16) hx hb hts uwX7 hown hK hP 0 rfl rfl 6 (by decide) (hts _ fl_X7_29) (fun _ h9 => h9) rfl dX7_allWin_123 ?_
              refine lv_iload hx hb dX7_allWin_126 (lv_at hl 5 rfl) ?_
              refine roi (runV ⟨hx, hb, hml, hown, hts⟩ wf_X7_winsBy ml_X7_167 (c7_winsBy l dC dI cs ad (ad 5) m_n m_order m_shelf m_opens m_lists m_listed m_work m_counts m_older m_products m_part m_parts m_ways m_used m_greaterNow m_countNow m_work x6 hq) ⟨⟨rfl, rfl⟩, by decide, by decide⟩ (preR (hP.sub (ws' := wX7r cs ad (ad 5) m_n m_order m_shelf m_opens m_lists m_listed m_work m_counts m_older m_products m_part m_parts m_ways m_used m_greaterNow m_countNow m_work) [0, 1, 2, 3, 4, 5, 6, 7, 8, 9, 10, 5] rfl) hK hN) hK hP rfl 0 rfl rfl hl.1 rfl (Nat.le_of_ble_eq_true rfl) dX7_allWin_128 ⟨(Nat.le_of_ble_eq_true rfl), (Nat.le_of_ble_eq_true rfl)⟩) (fun r27 hq => ?_)
              refine lv_if_eq (tgt := 138) hx hb dX7_allWin_131 (by decide) (fun c28 => ?_) (fun c28 => ?_)
              · have hq := hq.1 c28
                refine lv_iconst (v := (0 : Int32)) hx hb dX7_allWin_138 (by decide) ?_
                exact B139 (0 : Int32) x1 x2 x4 x6 m_work m_counts m_older m_products m_part m_parts _ _ _ hq hP hD hS (lv_sub hl [0, 1, 2, 3, 5] rfl)
              · have hq := hq.2 c28
                refine lv_iconst (v := (1 : Int32)) hx hb dX7_allWin_134 (by decide) ?_
                refine lv_goto (tgt := 139) hx hb dX7_allWin_135 (by decide) ?_
                exact B139 (1 : Int32) x1 x2 x4 x6 m_work m_counts m_older m_products m_part m_parts _ _ _ hq hP hD hS (lv_sub hl [0, 1, 2, 3, 5] rfl)
      unfold q7_allWin_74 at hq
      refine lv_iload_n hx hb dX7_allWin_74 rfl (lv_at hl 1 rfl) ?_
      refine lv_iconst (v := (1 : Int32)) hx hb dX7_allWin_75 (by decide) ?_
      refine lv_icmp_ne (tgt := 166) hx hb dX7_allWin_76 (by decide) (fun c29 => ?_) (fun c29 => ?_)
      · have hq := hq.1 c29
        refine lv_lload_n hx hb dX7_allWin_166 rfl (lv_at hl 2 rfl) ?_
        exact W.lret (v := x2) hx hb hr (fun t ht hW => ⟨⟨x2, (m_work, m_counts, m_older, m_products, m_part, m_parts), rfl, hq, Bw_mk (by rw [ht]; exact hP) (va_K.moved hW.alike hK) hD⟩, hS.F ht⟩) hS.2.2 dX7_allWin_167
      · have hq := hq.2 c29
        refine lv_iload hx hb dX7_allWin_79 (lv_at hl 3 rfl) ?_
        refine lv_i2l (v := x4.toInt64) hx hb dX7_allWin_81 rfl ?_
        refine lv_aload_n hx hb dX7_allWin_82 rfl (lv_at hl 0 rfl) ?_
        refine va_get (D := (dC, dI)) (ci := 7) (v := .ref (ad 8)) (C := RX7) (T := TX7) (N := 16) hx hb hts uwX7 hown hK hP 0 rfl rfl 9 (by decide) (hts _ fl_X7_39) (fun _ h9 => h9) rfl dX7_allWin_83 ?_
        refine lv_aload_n hx hb dX7_allWin_86 rfl (lv_at hl 0 rfl) ?_
        refine va_get (D := (dC, dI)) (ci := 7) (v := .int m_n) (C := RX7) (T := TX7) (N := 16) hx hb hts uwX7 hown hK hP 0 rfl rfl 0 (by decide) (hts _ fl_X7_7) (fun _ h9 => h9) rfl dX7_allWin_87 ?_
        obtain ⟨i30, hq⟩ := hq
        refine va_lald hx hb hK hP 8 1 rfl rfl i30 dX7_allWin_90 ?_
        refine lc_ge (tgt := 166) hx hb dX7_allWin_91 dX7_allWin_92 (by decide) (fun c31 => ?_) (fun c31 => ?_)
        · have hq := hq.1 c31
          refine lv_lload_n hx hb dX7_allWin_166 rfl (lv_at hl 2 rfl) ?_
          exact W.lret (v := x2) hx hb hr (fun t ht hW => ⟨⟨x2, (m_work, m_counts, m_older, m_products, m_part, m_parts), rfl, hq, Bw_mk (by rw [ht]; exact hP) (va_K.moved hW.alike hK) hD⟩, hS.F ht⟩) hS.2.2 dX7_allWin_167
        · have hq := hq.2 c31
          refine lv_aload_n hx hb dX7_allWin_95 rfl (lv_at hl 0 rfl) ?_
          refine lv_iload hx hb dX7_allWin_96 (lv_at hl 3 rfl) ?_
          refine swv (runV ⟨hx, hb, hml, hown, hts⟩ wf_X7_layRow ml_X7_173 (c7_layRow l dC dI cs ad _ m_n m_order m_shelf m_opens m_lists m_listed m_work m_counts m_older m_products m_part m_parts m_ways m_used m_greaterNow m_countNow x4 hq) ⟨⟨rfl, rfl⟩, by decide, by decide⟩ (preW hP hK hN hD) hK hP rfl 0 rfl rfl hl.1 rfl (Nat.le_of_ble_eq_true rfl) dX7_allWin_98 ⟨(Nat.le_of_ble_eq_true rfl), (Nat.le_of_ble_eq_true rfl)⟩) hD hS hA (fun  m_work_32 H locs hq hP hD hS => ?_)
          have hP : va_P (dC, dI) vwCl (wX7 cs ad m_n m_order m_shelf m_opens m_lists m_listed m_work_32 m_counts m_older m_products m_part m_parts m_ways m_used m_greaterNow m_countNow) H := hP
          have hD : va_D A (wX7 cs ad m_n m_order m_shelf m_opens m_lists m_listed m_work_32 m_counts m_older m_products m_part m_parts m_ways m_used m_greaterNow m_countNow) := hD
          refine lv_iconst (v := (1 : Int32)) hx hb dX7_allWin_101 (by decide) ?_
          refine lv_istore (lv' := [(5, .int (1 : Int32)), (0, .ref (ad 0)), (1, .int x1), (2, .long x2), (4, .int x4)]) hx hb dX7_allWin_102 hl (by decide) rfl (fun ls hl => ?_)
          refine lv_iconst (v := (0 : Int32)) hx hb dX7_allWin_104 (by decide) ?_
          refine lv_istore (lv' := [(6, .int (0 : Int32)), (5, .int (1 : Int32)), (0, .ref (ad 0)), (1, .int x1), (2, .long x2), (4, .int x4)]) hx hb dX7_allWin_105 hl (by decide) rfl (fun ls hl => ?_)
          obtain ⟨kf, hq⟩ := hq
          exact B107 kf x1 x2 x4 (1 : Int32) (0 : Int32) m_work_32 m_counts m_older m_products m_part m_parts _ _ _ hq hP hD hS (lv_sub hl [2, 3, 4, 5, 1, 0] rfl)
  have B71 : ∀ (x1 : Int32) (x2 : Int64) (m_work : Nat → Int32) (m_counts : Nat → Int64) (m_older : Nat → Int64) (m_products : Nat → Int64) (m_part : Nat → Int32) (m_parts : Int32) (H : Heap) (locs : List Loc) (ls : Array Slot), q7_allWin_71 m_n m_opens m_lists m_listed Q x1 x2 m_work m_counts m_older m_products m_part m_parts → va_P (dC, dI) vwCl (wX7 cs ad m_n m_order m_shelf m_opens m_lists m_listed m_work m_counts m_older m_products m_part m_parts m_ways m_used m_greaterNow m_countNow) H → va_D A (wX7 cs ad m_n m_order m_shelf m_opens m_lists m_listed m_work m_counts m_older m_products m_part m_parts m_ways m_used m_greaterNow m_countNow) → va_S A s.heap H locs → lv_has ls 7 [(0, .ref (ad 0)), (1, .int x1), (2, .long x2)] → W p l e ({ frames := 4, cells := 0, slots := 0, locals := 97 } : Room) s m ([.ref (ad 0), .int a1] : List Value).toArray below meth c H locs 0 0 (MQ below (va_Ql (fun (r : Int64) (u : (Nat → Int32) × (Nat → Int64) × (Nat → Int64) × (Nat → Int64) × (Nat → Int32) × Int32) => Q r u.1 u.2.1 u.2.2.1 u.2.2.2.1 u.2.2.2.2.1 u.2.2.2.2.2) (Bw (dC, dI) (KA cs) A (fun u : (Nat → Int32) × (Nat → Int64) × (Nat → Int64) × (Nat → Int64) × (Nat → Int32) × Int32 => (wX7 cs ad m_n m_order m_shelf m_opens m_lists m_listed u.1 u.2.1 u.2.2.1 u.2.2.2.1 u.2.2.2.2.1 u.2.2.2.2.2 m_ways m_used m_greaterNow m_countNow))) A) ([.ref (ad 0), .int a1] : List Value).toArray s 0 0 A) (F0 m 71 ls []) := by
    intro x1 x2 m_work m_counts m_older m_products m_part m_parts H locs ls hq hP hD hS hl
    unfold q7_allWin_71 at hq
    refine lv_iconst (v := (0 : Int32)) hx hb dX7_allWin_71 (by decide) ?_
    refine lv_istore (lv' := [(4, .int (0 : Int32)), (0, .ref (ad 0)), (1, .int x1), (2, .long x2)]) hx hb dX7_allWin_72 hl (by decide) rfl (fun ls hl => ?_)
    obtain ⟨kf, hq⟩ := hq
    exact B74 kf x1 x2 (0 : Int32) m_work m_counts m_older m_products m_part m_parts _ _ _ hq hP hD hS (lv_sub hl [1, 2, 3, 0] rfl)
  have B42 : ∀ (k42 : Nat) (x1 : Int32) (x2 : Int64) (x4 : Int32) (m_work : Nat → Int32) (m_counts : Nat → Int64) (m_older : Nat → Int64) (m_products : Nat → Int64) (m_part : Nat → Int32) (m_parts : Int32) (H : Heap) (locs : List Loc) (ls : Array Slot), q7_allWin_42 m_n m_opens m_lists m_listed Q k42 x1 x2 x4 m_work m_counts m_older m_products m_part m_parts → va_P (dC, dI) vwCl (wX7 cs ad m_n m_order m_shelf m_opens m_lists m_listed m_work m_counts m_older m_products m_part m_parts m_ways m_used m_greaterNow m_countNow) H → va_D A (wX7 cs ad m_n m_order m_shelf m_opens m_lists m_listed m_work m_counts m_older m_products m_part m_parts m_ways m_used m_greaterNow m_countNow) → va_S A s.heap H locs → lv_has ls 7 [(0, .ref (ad 0)), (1, .int x1), (2, .long x2), (4, .int x4)] → W p l e ({ frames := 4, cells := 0, slots := 0, locals := 97 } : Room) s m ([.ref (ad 0), .int a1] : List Value).toArray below meth c H locs 0 0 (MQ below (va_Ql (fun (r : Int64) (u : (Nat → Int32) × (Nat → Int64) × (Nat → Int64) × (Nat → Int64) × (Nat → Int32) × Int32) => Q r u.1 u.2.1 u.2.2.1 u.2.2.2.1 u.2.2.2.2.1 u.2.2.2.2.2) (Bw (dC, dI) (KA cs) A (fun u : (Nat → Int32) × (Nat → Int64) × (Nat → Int64) × (Nat → Int64) × (Nat → Int32) × Int32 => (wX7 cs ad m_n m_order m_shelf m_opens m_lists m_listed u.1 u.2.1 u.2.2.1 u.2.2.2.1 u.2.2.2.2.1 u.2.2.2.2.2 m_ways m_used m_greaterNow m_countNow))) A) ([.ref (ad 0), .int a1] : List Value).toArray s 0 0 A) (F0 m 42 ls []) := by
    intro k42
    induction k42 with
    | zero => intro x1 x2 x4 m_work m_counts m_older m_products m_part m_parts H locs ls hq; exact False.elim hq
    | succ k42 ih42 =>
      intro x1 x2 x4 m_work m_counts m_older m_products m_part m_parts H locs ls hq hP hD hS hl
      unfold q7_allWin_42 at hq
      refine lv_iload hx hb dX7_allWin_42 (lv_at hl 3 rfl) ?_
      refine lv_aload_n hx hb dX7_allWin_44 rfl (lv_at hl 0 rfl) ?_
      refine va_get (D := (dC, dI)) (ci := 7) (v := .int m_opens) (C := RX7) (T := TX7) (N := 16) hx hb hts uwX7 hown hK hP 0 rfl rfl 3 (by decide) (hts _ fl_X7_20) (fun _ h9 => h9) rfl dX7_allWin_45 ?_
      refine lv_icmp_gt (tgt := 71) hx hb dX7_allWin_48 (by decide) (fun c34 => ?_) (fun c34 => ?_)
      · have hq := hq.1 c34
        exact B71 x1 x2 m_work m_counts m_older m_products m_part m_parts _ _ _ hq hP hD hS (lv_sub hl [0, 1, 2] rfl)
      · have hq := hq.2 c34
        refine lv_iload_n hx hb dX7_allWin_51 rfl (lv_at hl 1 rfl) ?_
        refine lv_if_ne (tgt := 71) hx hb dX7_allWin_52 (by decide) (fun c35 => ?_) (fun c35 => ?_)
        · have hq := hq.1 c35
          exact B71 x1 x2 m_work m_counts m_older m_products m_part m_parts _ _ _ hq hP hD hS (lv_sub hl [0, 1, 2] rfl)
        · have hq := hq.2 c35
          refine lv_lload_n hx hb dX7_allWin_55 rfl (lv_at hl 2 rfl) ?_
          refine lv_aload_n hx hb dX7_allWin_56 rfl (lv_at hl 0 rfl) ?_
          refine va_get (D := (dC, dI)) (ci := 7) (v := .ref (ad 6)) (C := RX7) (T := TX7) (N := 16) hx hb hts uwX7 hown hK hP 0 rfl rfl 7 (by decide) (hts _ fl_X7_32) (fun _ h9 => h9) rfl dX7_allWin_57 ?_
          refine lv_iload hx hb dX7_allWin_60 (lv_at hl 3 rfl) ?_
          obtain ⟨i36, hq⟩ := hq
          refine va_lald hx hb hK hP 6 1 rfl rfl i36 dX7_allWin_62 ?_
          refine lv_ladd hx hb dX7_allWin_63 ?_
          refine lv_lstore_n (lv' := [(2, .long (x2 + (m_counts x4.toNatClampNeg))), (0, .ref (ad 0)), (1, .int x1), (4, .int x4)]) hx hb dX7_allWin_64 rfl hl (by decide) rfl (fun ls hl => ?_)
          refine lv_iinc (v := (x4 + (1 : Int32))) (lv' := [(4, .int (x4 + (1 : Int32))), (2, .long (x2 + (m_counts x4.toNatClampNeg))), (0, .ref (ad 0)), (1, .int x1)]) hx hb dX7_allWin_65 hl (k := 3) rfl (by rfl) (by decide) rfl (fun ls hl => ?_)
          refine lv_goto (tgt := 42) hx hb dX7_allWin_68 (by decide) ?_
          exact ih42 x1 (x2 + (m_counts x4.toNatClampNeg)) (x4 + (1 : Int32)) m_work m_counts m_older m_products m_part m_parts _ _ _ hq hP hD hS (lv_sub hl [2, 3, 1, 0] rfl)
  have B32 : ∀ (x1 : Int32) (m_work : Nat → Int32) (m_counts : Nat → Int64) (m_older : Nat → Int64) (m_products : Nat → Int64) (m_part : Nat → Int32) (m_parts : Int32) (H : Heap) (locs : List Loc) (ls : Array Slot), q7_allWin_32 m_n m_opens m_lists m_listed Q x1 m_work m_counts m_older m_products m_part m_parts → va_P (dC, dI) vwCl (wX7 cs ad m_n m_order m_shelf m_opens m_lists m_listed m_work m_counts m_older m_products m_part m_parts m_ways m_used m_greaterNow m_countNow) H → va_D A (wX7 cs ad m_n m_order m_shelf m_opens m_lists m_listed m_work m_counts m_older m_products m_part m_parts m_ways m_used m_greaterNow m_countNow) → va_S A s.heap H locs → lv_has ls 7 [(0, .ref (ad 0)), (1, .int x1)] → W p l e ({ frames := 4, cells := 0, slots := 0, locals := 97 } : Room) s m ([.ref (ad 0), .int a1] : List Value).toArray below meth c H locs 0 0 (MQ below (va_Ql (fun (r : Int64) (u : (Nat → Int32) × (Nat → Int64) × (Nat → Int64) × (Nat → Int64) × (Nat → Int32) × Int32) => Q r u.1 u.2.1 u.2.2.1 u.2.2.2.1 u.2.2.2.2.1 u.2.2.2.2.2) (Bw (dC, dI) (KA cs) A (fun u : (Nat → Int32) × (Nat → Int64) × (Nat → Int64) × (Nat → Int64) × (Nat → Int32) × Int32 => (wX7 cs ad m_n m_order m_shelf m_opens m_lists m_listed u.1 u.2.1 u.2.2.1 u.2.2.2.1 u.2.2.2.2.1 u.2.2.2.2.2 m_ways m_used m_greaterNow m_countNow))) A) ([.ref (ad 0), .int a1] : List Value).toArray s 0 0 A) (F0 m 32 ls []) := by
    intro x1 m_work m_counts m_older m_products m_part m_parts H locs ls hq hP hD hS hl
    unfold q7_allWin_32 at hq
    refine lv_aload_n hx hb dX7_allWin_32 rfl (lv_at hl 0 rfl) ?_
    refine lv_iconst (v := (4 : Int32)) hx hb dX7_allWin_33 (by decide) ?_
    refine swv (runV ⟨hx, hb, hml, hown, hts⟩ wf_X7_findCounts ml_X7_124 (c7_findCounts l dC dI cs ad _ m_n m_order m_shelf m_opens m_lists m_listed m_work m_counts m_older m_products m_part m_parts m_ways m_used m_greaterNow m_countNow (4 : Int32) hq) ⟨⟨rfl, rfl⟩, by decide, by decide⟩ (preW hP hK hN hD) hK hP rfl 0 rfl rfl hl.1 rfl (Nat.le_of_ble_eq_true rfl) dX7_allWin_34 ⟨(Nat.le_of_ble_eq_true rfl), (Nat.le_of_ble_eq_true rfl)⟩) hD hS hA (fun  u42 H locs hq hP hD hS => ?_)
    obtain ⟨m_counts_37, m_older_38, m_products_39, m_part_40, m_parts_41⟩ := u42
    try dsimp only at hq
    have hP : va_P (dC, dI) vwCl (wX7 cs ad m_n m_order m_shelf m_opens m_lists m_listed m_work m_counts_37 m_older_38 m_products_39 m_part_40 m_parts_41 m_ways m_used m_greaterNow m_countNow) H := hP
    have hD : va_D A (wX7 cs ad m_n m_order m_shelf m_opens m_lists m_listed m_work m_counts_37 m_older_38 m_products_39 m_part_40 m_parts_41 m_ways m_used m_greaterNow m_countNow) := hD
    refine lv_lconst (v := (0 : Int64)) hx hb dX7_allWin_37 (by decide) ?_
    refine lv_lstore_n (lv' := [(2, .long (0 : Int64)), (0, .ref (ad 0)), (1, .int x1)]) hx hb dX7_allWin_38 rfl hl (by decide) rfl (fun ls hl => ?_)
    refine lv_iconst (v := (1 : Int32)) hx hb dX7_allWin_39 (by decide) ?_
    refine lv_istore (lv' := [(4, .int (1 : Int32)), (2, .long (0 : Int64)), (0, .ref (ad 0)), (1, .int x1)]) hx hb dX7_allWin_40 hl (by decide) rfl (fun ls hl => ?_)
    obtain ⟨kf, hq⟩ := hq
    exact B42 kf x1 (0 : Int64) (1 : Int32) m_work m_counts_37 m_older_38 m_products_39 m_part_40 m_parts_41 _ _ _ hq hP hD hS (lv_sub hl [2, 3, 1, 0] rfl)
  unfold q7_allWin at hq
  refine lv_iload_n hx hb dX7_allWin_0 rfl (lv_at hl 1 rfl) ?_
  refine lv_i2l (v := a1.toInt64) hx hb dX7_allWin_1 rfl ?_
  refine lv_lconst (v := (0 : Int64)) hx hb dX7_allWin_2 (by decide) ?_
  refine lv_lconst (v := (1 : Int64)) hx hb dX7_allWin_3 (by decide) ?_
  refine roi (runS ⟨hx, hb, hml, hown, hts⟩ ws_X7_in ml_X7_51 (c7_in l dC dI cs   a1.toInt64 (0 : Int64) (1 : Int64) hq) ⟨⟨rfl, rfl⟩, by decide, by decide⟩ (preR va_P_nil hK hN) hN rfl hl.1 rfl (Nat.le_of_ble_eq_true rfl) dX7_allWin_4 ⟨(Nat.le_of_ble_eq_true rfl), (Nat.le_of_ble_eq_true rfl)⟩) (fun r43 hq => ?_)
  refine lv_if_ne (tgt := 14) hx hb dX7_allWin_7 (by decide) (fun c44 => ?_) (fun c44 => ?_)
  · have hq := hq.1 c44
    refine lv_iload_n hx hb dX7_allWin_14 rfl (lv_at hl 1 rfl) ?_
    refine lv_iconst (v := (1 : Int32)) hx hb dX7_allWin_15 (by decide) ?_
    refine lv_icmp_ne (tgt := 32) hx hb dX7_allWin_16 (by decide) (fun c45 => ?_) (fun c45 => ?_)
    · have hq := hq.1 c45
      exact B32 a1 m_work m_counts m_older m_products m_part m_parts _ _ _ hq hP hD hS (lv_sub hl [0, 1] rfl)
    · have hq := hq.2 c45
      refine lv_aload_n hx hb dX7_allWin_19 rfl (lv_at hl 0 rfl) ?_
      refine va_get (D := (dC, dI)) (ci := 7) (v := .int m_n) (C := RX7) (T := TX7) (N := 16) hx hb hts uwX7 hown hK hP 0 rfl rfl 0 (by decide) (hts _ fl_X7_7) (fun _ h9 => h9) rfl dX7_allWin_20 ?_
      refine lv_bipush (v := (7 : Int32)) hx hb dX7_allWin_23 (by decide) ?_
      refine lv_icmp_le (tgt := 32) hx hb dX7_allWin_25 (by decide) (fun c46 => ?_) (fun c46 => ?_)
      · have hq := hq.1 c46
        exact B32 a1 m_work m_counts m_older m_products m_part m_parts _ _ _ hq hP hD hS (lv_sub hl [0, 1] rfl)
      · have hq := hq.2 c46
        refine lv_ldc2 (v := (-3 : Int64)) hx hb hown (hts _ kl_X7_171) dX7_allWin_28 ?_
        exact W.lret (v := (-3 : Int64)) hx hb hr (fun t ht hW => ⟨⟨(-3 : Int64), (m_work, m_counts, m_older, m_products, m_part, m_parts), rfl, hq, Bw_mk (by rw [ht]; exact hP) (va_K.moved hW.alike hK) hD⟩, hS.F ht⟩) hS.2.2 dX7_allWin_31
  · have hq := hq.2 c44
    refine lv_ldc2 (v := (-2 : Int64)) hx hb hown (hts _ kl_X7_122) dX7_allWin_10 ?_
    exact W.lret (v := (-2 : Int64)) hx hb hr (fun t ht hW => ⟨⟨(-2 : Int64), (m_work, m_counts, m_older, m_products, m_part, m_parts), rfl, hq, Bw_mk (by rw [ht]; exact hP) (va_K.moved hW.alike hK) hD⟩, hS.F ht⟩) hS.2.2 dX7_allWin_13
