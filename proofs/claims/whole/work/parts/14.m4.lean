set_option maxHeartbeats 4000000 in
set_option maxRecDepth 100000 in
theorem c7_layWays (l : Launch) (dC : Nat → ClassId) (dI : Nat → Nat → Nat) (cs : Nat → ClassId) (ad : Nat → Nat) (sz : Nat) (m_n : Int32) (m_order : Nat → Int32) (m_shelf : Nat → Int32) (m_opens : Int32) (m_lists : Nat → Int32) (m_listed : Nat → Int32) (m_work : Nat → Int32) (m_counts : Nat → Int64) (m_older : Nat → Int64) (m_products : Nat → Int64) (m_part : Nat → Int32) (m_parts : Int32) (m_ways : Nat → Int64) (m_used : Int32) (m_greaterNow : Int32) (m_countNow : Int32) (a1 : Int32) {Q : (Nat → Int64) → Prop} (hq : q7_layWays m_n m_ways a1 Q) : Met l yX7_layWays (.code yX7_layWays cX7_layWays 8 none :: gt) ({ frames := 2, cells := 0, slots := 0, locals := 50 } : Room) (va_Pc [.ref (ad 0), .int a1] (Pw (dC, dI) (KA cs) (wX7 cs ad m_n m_order m_shelf m_opens m_lists m_listed m_work m_counts m_older m_products m_part m_parts m_ways m_used m_greaterNow m_countNow) sz)) (va_Qv (fun (u : (Nat → Int64)) => Q u) (Bw (dC, dI) (KA cs) (va_A (wX7 cs ad m_n m_order m_shelf m_opens m_lists m_listed m_work m_counts m_older m_products m_part m_parts m_ways m_used m_greaterNow m_countNow) sz) (fun u : (Nat → Int64) => (wX7 cs ad m_n m_order m_shelf m_opens m_lists m_listed m_work m_counts m_older m_products m_part m_parts u m_used m_greaterNow m_countNow))) (va_A (wX7 cs ad m_n m_order m_shelf m_opens m_lists m_listed m_work m_counts m_older m_products m_part m_parts m_ways m_used m_greaterNow m_countNow) sz)) 0 0 (va_A (wX7 cs ad m_n m_order m_shelf m_opens m_lists m_listed m_work m_counts m_older m_products m_part m_parts m_ways m_used m_greaterNow m_countNow) sz) := by
  refine Met.ofW (cc := cX7_layWays) (maxL := 8) (ret := none) (by decide) rfl ?_
  intro p e s m args below meth c s₁ B hml hv
  obtain ⟨rfl, hsz, hP, hK, hD0, hN⟩ := hv
  have hx := B.exec
  have hb := B.bytes
  have hr := B.returns
  have hts0 := atoms_spec (ws := (.code yX7_layWays cX7_layWays 8 none :: gt)) B.pre
  have hts : ∀ w ∈ gt, w.before _ s = true := fun w h => hts0 w (List.mem_cons_of_mem _ h)
  have hown : s.vm.findClass RX7 = some m.cls := findClass_of_methodNamed B.named
  have hlocks := B.notSynchronized
  subst hsz
  have hD := hD0.self (sz := s.heap.size)
  generalize hAe : va_A (wX7 cs ad m_n m_order m_shelf m_opens m_lists m_listed m_work m_counts m_older m_products m_part m_parts m_ways m_used m_greaterNow m_countNow) s.heap.size = A at hD ⊢
  have hA : ∀ q : Nat, s.heap.size ≤ q → A q := fun q h => by rw [← hAe]; exact Or.inr h
  have hS : va_S A s.heap s.heap [] := va_S.rf
  have hl := lv_entry ([.ref (ad 0), .int a1]) (n := 8) (Nat.le_of_ble_eq_true rfl)
  rw [lg_entry_eq]
  generalize (lg_sl ([.ref (ad 0), .int a1]) ++ List.replicate (8 - (lg_sl ([.ref (ad 0), .int a1])).length) Slot.unset).toArray = ls at hl ⊢
  have hl : lv_has ls 8 [(0, .ref (ad 0)), (1, .int a1)] := hl
  have B31 : ∀ (k31 : Nat) (x1 : Int32) (x2 : Int32) (m_ways : Nat → Int64) (H : Heap) (locs : List Loc) (ls : Array Slot), q7_layWays_31 m_n Q k31 x1 x2 m_ways → va_P (dC, dI) vwCl (wX7 cs ad m_n m_order m_shelf m_opens m_lists m_listed m_work m_counts m_older m_products m_part m_parts m_ways m_used m_greaterNow m_countNow) H → va_D A (wX7 cs ad m_n m_order m_shelf m_opens m_lists m_listed m_work m_counts m_older m_products m_part m_parts m_ways m_used m_greaterNow m_countNow) → va_S A s.heap H locs → lv_has ls 8 [(0, .ref (ad 0)), (1, .int x1), (2, .int x2)] → W p l e ({ frames := 2, cells := 0, slots := 0, locals := 50 } : Room) s m ([.ref (ad 0), .int a1] : List Value).toArray below meth c H locs 0 0 (MQ below (va_Qv (fun (u : (Nat → Int64)) => Q u) (Bw (dC, dI) (KA cs) A (fun u : (Nat → Int64) => (wX7 cs ad m_n m_order m_shelf m_opens m_lists m_listed m_work m_counts m_older m_products m_part m_parts u m_used m_greaterNow m_countNow))) A) ([.ref (ad 0), .int a1] : List Value).toArray s 0 0 A) (F0 m 31 ls []) := by
    intro k31
    induction k31 with
    | zero => intro x1 x2 m_ways H locs ls hq; exact False.elim hq
    | succ k31 ih31 =>
      intro x1 x2 m_ways H locs ls hq hP hD hS hl
      have B118 : ∀ (x1 : Int32) (x2 : Int32) (m_ways : Nat → Int64) (H : Heap) (locs : List Loc) (ls : Array Slot), q7_layWays_118 m_n (fun v0 v1 v2 => q7_layWays_31 m_n Q k31 v0 v1 v2) Q x1 x2 m_ways → va_P (dC, dI) vwCl (wX7 cs ad m_n m_order m_shelf m_opens m_lists m_listed m_work m_counts m_older m_products m_part m_parts m_ways m_used m_greaterNow m_countNow) H → va_D A (wX7 cs ad m_n m_order m_shelf m_opens m_lists m_listed m_work m_counts m_older m_products m_part m_parts m_ways m_used m_greaterNow m_countNow) → va_S A s.heap H locs → lv_has ls 8 [(0, .ref (ad 0)), (1, .int x1), (2, .int x2)] → W p l e ({ frames := 2, cells := 0, slots := 0, locals := 50 } : Room) s m ([.ref (ad 0), .int a1] : List Value).toArray below meth c H locs 0 0 (MQ below (va_Qv (fun (u : (Nat → Int64)) => Q u) (Bw (dC, dI) (KA cs) A (fun u : (Nat → Int64) => (wX7 cs ad m_n m_order m_shelf m_opens m_lists m_listed m_work m_counts m_older m_products m_part m_parts u m_used m_greaterNow m_countNow))) A) ([.ref (ad 0), .int a1] : List Value).toArray s 0 0 A) (F0 m 118 ls []) := by
        intro x1 x2 m_ways H locs ls hq hP hD hS hl
        unfold q7_layWays_118 at hq
        refine lv_iinc (v := (x2 + (1 : Int32))) (lv' := [(2, .int (x2 + (1 : Int32))), (0, .ref (ad 0)), (1, .int x1)]) hx hb dX7_layWays_118 hl (k := 2) rfl (by rfl) (by decide) rfl (fun ls hl => ?_)
        refine lv_goto (tgt := 31) hx hb dX7_layWays_121 (by decide) ?_
        exact ih31 x1 (x2 + (1 : Int32)) m_ways _ _ _ hq hP hD hS (lv_sub hl [1, 2, 0] rfl)
      have B41 : ∀ (k41 : Nat) (x1 : Int32) (x2 : Int32) (x3 : Int32) (m_ways : Nat → Int64) (H : Heap) (locs : List Loc) (ls : Array Slot), q7_layWays_41 m_n (fun v0 v1 v2 => q7_layWays_31 m_n Q k31 v0 v1 v2) Q k41 x1 x2 x3 m_ways → va_P (dC, dI) vwCl (wX7 cs ad m_n m_order m_shelf m_opens m_lists m_listed m_work m_counts m_older m_products m_part m_parts m_ways m_used m_greaterNow m_countNow) H → va_D A (wX7 cs ad m_n m_order m_shelf m_opens m_lists m_listed m_work m_counts m_older m_products m_part m_parts m_ways m_used m_greaterNow m_countNow) → va_S A s.heap H locs → lv_has ls 8 [(0, .ref (ad 0)), (1, .int x1), (2, .int x2), (3, .int x3)] → W p l e ({ frames := 2, cells := 0, slots := 0, locals := 50 } : Room) s m ([.ref (ad 0), .int a1] : List Value).toArray below meth c H locs 0 0 (MQ below (va_Qv (fun (u : (Nat → Int64)) => Q u) (Bw (dC, dI) (KA cs) A (fun u : (Nat → Int64) => (wX7 cs ad m_n m_order m_shelf m_opens m_lists m_listed m_work m_counts m_older m_products m_part m_parts u m_used m_greaterNow m_countNow))) A) ([.ref (ad 0), .int a1] : List Value).toArray s 0 0 A) (F0 m 41 ls []) := by
        intro k41
        induction k41 with
        | zero => intro x1 x2 x3 m_ways H locs ls hq; exact False.elim hq
        | succ k41 ih41 =>
          intro x1 x2 x3 m_ways H locs ls hq hP hD hS hl
          have B112 : ∀ (x1 : Int32) (x2 : Int32) (x3 : Int32) (m_ways : Nat → Int64) (H : Heap) (locs : List Loc) (ls : Array Slot), q7_layWays_112 m_n (fun v0 v1 v2 => q7_layWays_31 m_n Q k31 v0 v1 v2) (fun v0 v1 v2 v3 => q7_layWays_41 m_n (fun v0 v1 v2 => q7_layWays_31 m_n Q k31 v0 v1 v2) Q k41 v0 v1 v2 v3) Q x1 x2 x3 m_ways → va_P (dC, dI) vwCl (wX7 cs ad m_n m_order m_shelf m_opens m_lists m_listed m_work m_counts m_older m_products m_part m_parts m_ways m_used m_greaterNow m_countNow) H → va_D A (wX7 cs ad m_n m_order m_shelf m_opens m_lists m_listed m_work m_counts m_older m_products m_part m_parts m_ways m_used m_greaterNow m_countNow) → va_S A s.heap H locs → lv_has ls 8 [(0, .ref (ad 0)), (1, .int x1), (2, .int x2), (3, .int x3)] → W p l e ({ frames := 2, cells := 0, slots := 0, locals := 50 } : Room) s m ([.ref (ad 0), .int a1] : List Value).toArray below meth c H locs 0 0 (MQ below (va_Qv (fun (u : (Nat → Int64)) => Q u) (Bw (dC, dI) (KA cs) A (fun u : (Nat → Int64) => (wX7 cs ad m_n m_order m_shelf m_opens m_lists m_listed m_work m_counts m_older m_products m_part m_parts u m_used m_greaterNow m_countNow))) A) ([.ref (ad 0), .int a1] : List Value).toArray s 0 0 A) (F0 m 112 ls []) := by
            intro x1 x2 x3 m_ways H locs ls hq hP hD hS hl
            unfold q7_layWays_112 at hq
            refine lv_iinc (v := (x3 + (1 : Int32))) (lv' := [(3, .int (x3 + (1 : Int32))), (0, .ref (ad 0)), (1, .int x1), (2, .int x2)]) hx hb dX7_layWays_112 hl (k := 3) rfl (by rfl) (by decide) rfl (fun ls hl => ?_)
            refine lv_goto (tgt := 41) hx hb dX7_layWays_115 (by decide) ?_
            exact ih41 x1 x2 (x3 + (1 : Int32)) m_ways _ _ _ hq hP hD hS (lv_sub hl [1, 2, 3, 0] rfl)
          have B49 : ∀ (k49 : Nat) (x1 : Int32) (x2 : Int32) (x3 : Int32) (x4 : Int32) (m_ways : Nat → Int64) (H : Heap) (locs : List Loc) (ls : Array Slot), q7_layWays_49 m_n (fun v0 v1 v2 => q7_layWays_31 m_n Q k31 v0 v1 v2) (fun v0 v1 v2 v3 => q7_layWays_41 m_n (fun v0 v1 v2 => q7_layWays_31 m_n Q k31 v0 v1 v2) Q k41 v0 v1 v2 v3) Q k49 x1 x2 x3 x4 m_ways → va_P (dC, dI) vwCl (wX7 cs ad m_n m_order m_shelf m_opens m_lists m_listed m_work m_counts m_older m_products m_part m_parts m_ways m_used m_greaterNow m_countNow) H → va_D A (wX7 cs ad m_n m_order m_shelf m_opens m_lists m_listed m_work m_counts m_older m_products m_part m_parts m_ways m_used m_greaterNow m_countNow) → va_S A s.heap H locs → lv_has ls 8 [(0, .ref (ad 0)), (1, .int x1), (2, .int x2), (3, .int x3), (4, .int x4)] → W p l e ({ frames := 2, cells := 0, slots := 0, locals := 50 } : Room) s m ([.ref (ad 0), .int a1] : List Value).toArray below meth c H locs 0 0 (MQ below (va_Qv (fun (u : (Nat → Int64)) => Q u) (Bw (dC, dI) (KA cs) A (fun u : (Nat → Int64) => (wX7 cs ad m_n m_order m_shelf m_opens m_lists m_listed m_work m_counts m_older m_products m_part m_parts u m_used m_greaterNow m_countNow))) A) ([.ref (ad 0), .int a1] : List Value).toArray s 0 0 A) (F0 m 49 ls []) := by
            intro k49
            induction k49 with
            | zero => intro x1 x2 x3 x4 m_ways H locs ls hq; exact False.elim hq
            | succ k49 ih49 =>
              intro x1 x2 x3 x4 m_ways H locs ls hq hP hD hS hl
              have B92 : ∀ (x1 : Int32) (x2 : Int32) (x3 : Int32) (x4 : Int32) (x5 : Int64) (m_ways : Nat → Int64) (H : Heap) (locs : List Loc) (ls : Array Slot), q7_layWays_92 m_n (fun v0 v1 v2 => q7_layWays_31 m_n Q k31 v0 v1 v2) (fun v0 v1 v2 v3 => q7_layWays_41 m_n (fun v0 v1 v2 => q7_layWays_31 m_n Q k31 v0 v1 v2) Q k41 v0 v1 v2 v3) (fun v0 v1 v2 v3 v4 => q7_layWays_49 m_n (fun v0 v1 v2 => q7_layWays_31 m_n Q k31 v0 v1 v2) (fun v0 v1 v2 v3 => q7_layWays_41 m_n (fun v0 v1 v2 => q7_layWays_31 m_n Q k31 v0 v1 v2) Q k41 v0 v1 v2 v3) Q k49 v0 v1 v2 v3 v4) Q x1 x2 x3 x4 x5 m_ways → va_P (dC, dI) vwCl (wX7 cs ad m_n m_order m_shelf m_opens m_lists m_listed m_work m_counts m_older m_products m_part m_parts m_ways m_used m_greaterNow m_countNow) H → va_D A (wX7 cs ad m_n m_order m_shelf m_opens m_lists m_listed m_work m_counts m_older m_products m_part m_parts m_ways m_used m_greaterNow m_countNow) → va_S A s.heap H locs → lv_has ls 8 [(0, .ref (ad 0)), (1, .int x1), (2, .int x2), (3, .int x3), (4, .int x4), (5, .long x5)] → W p l e ({ frames := 2, cells := 0, slots := 0, locals := 50 } : Room) s m ([.ref (ad 0), .int a1] : List Value).toArray below meth c H locs 0 0 (MQ below (va_Qv (fun (u : (Nat → Int64)) => Q u) (Bw (dC, dI) (KA cs) A (fun u : (Nat → Int64) => (wX7 cs ad m_n m_order m_shelf m_opens m_lists m_listed m_work m_counts m_older m_products m_part m_parts u m_used m_greaterNow m_countNow))) A) ([.ref (ad 0), .int a1] : List Value).toArray s 0 0 A) (F0 m 92 ls []) := by
                intro x1 x2 x3 x4 x5 m_ways H locs ls hq hP hD hS hl
                unfold q7_layWays_92 at hq
                refine lv_aload_n hx hb dX7_layWays_92 rfl (lv_at hl 0 rfl) ?_
                refine va_get (D := (dC, dI)) (ci := 7) (v := .ref (ad 10)) (C := RX7) (T := TX7) (N := 16) hx hb hts uwX7 hown hK hP 0 rfl rfl 12 (by decide) (hts _ fl_X7_45) (fun _ h9 => h9) rfl dX7_layWays_93 ?_
                refine lv_iload_n hx hb dX7_layWays_96 rfl (lv_at hl 2 rfl) ?_
                refine lv_iload_n hx hb dX7_layWays_97 rfl (lv_at hl 3 rfl) ?_
                refine lv_iload hx hb dX7_layWays_98 (lv_at hl 4 rfl) ?_
                refine roi (runS ⟨hx, hb, hml, hown, hts⟩ ws_X7_wayAt ml_X7_133 (c7_wayAt l dC dI cs   x2 x3 x4 hq) ⟨⟨rfl, rfl⟩, by decide, by decide⟩ (preR va_P_nil hK hN) hN rfl hl.1 rfl (Nat.le_of_ble_eq_true rfl) dX7_layWays_100 ⟨(Nat.le_of_ble_eq_true rfl), (Nat.le_of_ble_eq_true rfl)⟩) (fun r11 hq => ?_)
                refine lv_lload hx hb dX7_layWays_103 (lv_at hl 5 rfl) ?_
                obtain ⟨i12, hq⟩ := hq
                refine va_last hx hb hK hP hD hS 10 1 rfl rfl i12 dX7_layWays_105 (fun H locs hP hD hS => ?_)
                have hP : va_P (dC, dI) vwCl (wX7 cs ad m_n m_order m_shelf m_opens m_lists m_listed m_work m_counts m_older m_products m_part m_parts (vp_updL m_ways r11.toNatClampNeg x5) m_used m_greaterNow m_countNow) H := hP
                have hD : va_D A (wX7 cs ad m_n m_order m_shelf m_opens m_lists m_listed m_work m_counts m_older m_products m_part m_parts (vp_updL m_ways r11.toNatClampNeg x5) m_used m_greaterNow m_countNow) := hD
                refine lv_iinc (v := (x4 + (1 : Int32))) (lv' := [(4, .int (x4 + (1 : Int32))), (0, .ref (ad 0)), (1, .int x1), (2, .int x2), (3, .int x3), (5, .long x5)]) hx hb dX7_layWays_106 hl (k := 4) rfl (by rfl) (by decide) rfl (fun ls hl => ?_)
                refine lv_goto (tgt := 49) hx hb dX7_layWays_109 (by decide) ?_
                exact ih49 x1 x2 x3 (x4 + (1 : Int32)) (vp_updL m_ways r11.toNatClampNeg x5) _ _ _ hq hP hD hS (lv_sub hl [1, 2, 3, 4, 0] rfl)
              have B64 : ∀ (k64 : Nat) (x1 : Int32) (x2 : Int32) (x3 : Int32) (x4 : Int32) (x5 : Int64) (x7 : Int32) (m_ways : Nat → Int64) (H : Heap) (locs : List Loc) (ls : Array Slot), q7_layWays_64 m_n (fun v0 v1 v2 => q7_layWays_31 m_n Q k31 v0 v1 v2) (fun v0 v1 v2 v3 => q7_layWays_41 m_n (fun v0 v1 v2 => q7_layWays_31 m_n Q k31 v0 v1 v2) Q k41 v0 v1 v2 v3) (fun v0 v1 v2 v3 v4 => q7_layWays_49 m_n (fun v0 v1 v2 => q7_layWays_31 m_n Q k31 v0 v1 v2) (fun v0 v1 v2 v3 => q7_layWays_41 m_n (fun v0 v1 v2 => q7_layWays_31 m_n Q k31 v0 v1 v2) Q k41 v0 v1 v2 v3) Q k49 v0 v1 v2 v3 v4) Q k64 x1 x2 x3 x4 x5 x7 m_ways → va_P (dC, dI) vwCl (wX7 cs ad m_n m_order m_shelf m_opens m_lists m_listed m_work m_counts m_older m_products m_part m_parts m_ways m_used m_greaterNow m_countNow) H → va_D A (wX7 cs ad m_n m_order m_shelf m_opens m_lists m_listed m_work m_counts m_older m_products m_part m_parts m_ways m_used m_greaterNow m_countNow) → va_S A s.heap H locs → lv_has ls 8 [(0, .ref (ad 0)), (1, .int x1), (2, .int x2), (3, .int x3), (4, .int x4), (5, .long x5), (7, .int x7)] → W p l e ({ frames := 2, cells := 0, slots := 0, locals := 50 } : Room) s m ([.ref (ad 0), .int a1] : List Value).toArray below meth c H locs 0 0 (MQ below (va_Qv (fun (u : (Nat → Int64)) => Q u) (Bw (dC, dI) (KA cs) A (fun u : (Nat → Int64) => (wX7 cs ad m_n m_order m_shelf m_opens m_lists m_listed m_work m_counts m_older m_products m_part m_parts u m_used m_greaterNow m_countNow))) A) ([.ref (ad 0), .int a1] : List Value).toArray s 0 0 A) (F0 m 64 ls []) := by
                intro k64
                induction k64 with
                | zero => intro x1 x2 x3 x4 x5 x7 m_ways H locs ls hq; exact False.elim hq
                | succ k64 ih64 =>
                  intro x1 x2 x3 x4 x5 x7 m_ways H locs ls hq hP hD hS hl
                  unfold q7_layWays_64 at hq
                  refine lv_iload hx hb dX7_layWays_64 (lv_at hl 6 rfl) ?_
                  refine lv_iload_n hx hb dX7_layWays_66 rfl (lv_at hl 2 rfl) ?_
                  refine lv_icmp_ge (tgt := 92) hx hb dX7_layWays_67 (by decide) (fun c13 => ?_) (fun c13 => ?_)
                  · have hq := hq.1 c13
                    exact B92 x1 x2 x3 x4 x5 m_ways _ _ _ hq hP hD hS (lv_sub hl [0, 1, 2, 3, 4, 5] rfl)
                  · have hq := hq.2 c13
                    refine lv_lload hx hb dX7_layWays_70 (lv_at hl 5 rfl) ?_
                    refine lv_aload_n hx hb dX7_layWays_72 rfl (lv_at hl 0 rfl) ?_
                    refine lv_iload_n hx hb dX7_layWays_73 rfl (lv_at hl 1 rfl) ?_
                    refine lv_iload_n hx hb dX7_layWays_74 rfl (lv_at hl 2 rfl) ?_
                    refine lv_iload_n hx hb dX7_layWays_75 rfl (lv_at hl 3 rfl) ?_
                    refine lv_iload hx hb dX7_layWays_76 (lv_at hl 4 rfl) ?_
                    refine lv_iload hx hb dX7_layWays_78 (lv_at hl 6 rfl) ?_
                    refine rol (runV ⟨hx, hb, hml, hown, hts⟩ wf_X7_waysBy ml_X7_129 (c7_waysBy l dC dI cs ad m_n m_order m_shelf m_opens m_lists m_listed m_work m_counts m_older m_products m_part m_parts m_ways m_used m_greaterNow m_countNow x1 x2 x3 x4 x7 hq) ⟨⟨rfl, rfl⟩, by decide, by decide⟩ (preR hP hK hN) hK hP rfl 0 rfl rfl hl.1 rfl (Nat.le_of_ble_eq_true rfl) dX7_layWays_80 ⟨(Nat.le_of_ble_eq_true rfl), (Nat.le_of_ble_eq_true rfl)⟩) (fun r14 hq => ?_)
                    refine lv_ladd hx hb dX7_layWays_83 ?_
                    refine lv_lstore (lv' := [(5, .long (x5 + r14)), (0, .ref (ad 0)), (1, .int x1), (2, .int x2), (3, .int x3), (4, .int x4), (7, .int x7)]) hx hb dX7_layWays_84 hl (by decide) rfl (fun ls hl => ?_)
                    refine lv_iinc (v := (x7 + (1 : Int32))) (lv' := [(7, .int (x7 + (1 : Int32))), (5, .long (x5 + r14)), (0, .ref (ad 0)), (1, .int x1), (2, .int x2), (3, .int x3), (4, .int x4)]) hx hb dX7_layWays_86 hl (k := 6) rfl (by rfl) (by decide) rfl (fun ls hl => ?_)
                    refine lv_goto (tgt := 64) hx hb dX7_layWays_89 (by decide) ?_
                    exact ih64 x1 x2 x3 x4 (x5 + r14) (x7 + (1 : Int32)) m_ways _ _ _ hq hP hD hS (lv_sub hl [2, 3, 4, 5, 6, 1, 0] rfl)
              unfold q7_layWays_49 at hq
              refine lv_iload hx hb dX7_layWays_49 (lv_at hl 4 rfl) ?_
              refine lv_aload_n hx hb dX7_layWays_51 rfl (lv_at hl 0 rfl) ?_
              refine va_get (D := (dC, dI)) (ci := 7) (v := .int m_n) (C := RX7) (T := TX7) (N := 16) hx hb hts uwX7 hown hK hP 0 rfl rfl 0 (by decide) (hts _ fl_X7_7) (fun _ h9 => h9) rfl dX7_layWays_52 ?_
              refine lv_icmp_gt (tgt := 112) hx hb dX7_layWays_55 (by decide) (fun c15 => ?_) (fun c15 => ?_)
              · have hq := hq.1 c15
                exact B112 x1 x2 x3 m_ways _ _ _ hq hP hD hS (lv_sub hl [0, 1, 2, 3] rfl)
              · have hq := hq.2 c15
                refine lv_lconst (v := (0 : Int64)) hx hb dX7_layWays_58 (by decide) ?_
                refine lv_lstore (lv' := [(5, .long (0 : Int64)), (0, .ref (ad 0)), (1, .int x1), (2, .int x2), (3, .int x3), (4, .int x4)]) hx hb dX7_layWays_59 hl (by decide) rfl (fun ls hl => ?_)
                refine lv_iconst (v := (0 : Int32)) hx hb dX7_layWays_61 (by decide) ?_
                refine lv_istore (lv' := [(7, .int (0 : Int32)), (5, .long (0 : Int64)), (0, .ref (ad 0)), (1, .int x1), (2, .int x2), (3, .int x3), (4, .int x4)]) hx hb dX7_layWays_62 hl (by decide) rfl (fun ls hl => ?_)
                obtain ⟨kf, hq⟩ := hq
                exact B64 kf x1 x2 x3 x4 (0 : Int64) (0 : Int32) m_ways _ _ _ hq hP hD hS (lv_sub hl [2, 3, 4, 5, 6, 1, 0] rfl)
          unfold q7_layWays_41 at hq
          refine lv_iload_n hx hb dX7_layWays_41 rfl (lv_at hl 3 rfl) ?_
          refine lv_iload_n hx hb dX7_layWays_42 rfl (lv_at hl 2 rfl) ?_
          refine lv_icmp_gt (tgt := 118) hx hb dX7_layWays_43 (by decide) (fun c16 => ?_) (fun c16 => ?_)
          · have hq := hq.1 c16
            exact B118 x1 x2 m_ways _ _ _ hq hP hD hS (lv_sub hl [0, 1, 2] rfl)
          · have hq := hq.2 c16
            refine lv_iconst (v := (0 : Int32)) hx hb dX7_layWays_46 (by decide) ?_
            refine lv_istore (lv' := [(4, .int (0 : Int32)), (0, .ref (ad 0)), (1, .int x1), (2, .int x2), (3, .int x3)]) hx hb dX7_layWays_47 hl (by decide) rfl (fun ls hl => ?_)
            obtain ⟨kf, hq⟩ := hq
            exact B49 kf x1 x2 x3 (0 : Int32) m_ways _ _ _ hq hP hD hS (lv_sub hl [1, 2, 3, 4, 0] rfl)
      unfold q7_layWays_31 at hq
      refine lv_iload_n hx hb dX7_layWays_31 rfl (lv_at hl 2 rfl) ?_
      refine lv_aload_n hx hb dX7_layWays_32 rfl (lv_at hl 0 rfl) ?_
      refine va_get (D := (dC, dI)) (ci := 7) (v := .int m_n) (C := RX7) (T := TX7) (N := 16) hx hb hts uwX7 hown hK hP 0 rfl rfl 0 (by decide) (hts _ fl_X7_7) (fun _ h9 => h9) rfl dX7_layWays_33 ?_
      refine lv_icmp_gt (tgt := 124) hx hb dX7_layWays_36 (by decide) (fun c17 => ?_) (fun c17 => ?_)
      · have hq := hq.1 c17
        exact W.vret hx hb hr (fun t ht hW => ⟨⟨m_ways, rfl, hq, Bw_mk (by rw [ht]; exact hP) (va_K.moved hW.alike hK) hD⟩, hS.F ht⟩) hS.2.2 dX7_layWays_124
      · have hq := hq.2 c17
        refine lv_iconst (v := (0 : Int32)) hx hb dX7_layWays_39 (by decide) ?_
        refine lv_istore_n (lv' := [(3, .int (0 : Int32)), (0, .ref (ad 0)), (1, .int x1), (2, .int x2)]) hx hb dX7_layWays_40 rfl hl (by decide) rfl (fun ls hl => ?_)
        obtain ⟨kf, hq⟩ := hq
        exact B41 kf x1 x2 (0 : Int32) m_ways _ _ _ hq hP hD hS (lv_sub hl [1, 2, 3, 0] rfl)
  have B22 : ∀ (x1 : Int32) (m_ways : Nat → Int64) (H : Heap) (locs : List Loc) (ls : Array Slot), q7_layWays_22 m_n Q x1 m_ways → va_P (dC, dI) vwCl (wX7 cs ad m_n m_order m_shelf m_opens m_lists m_listed m_work m_counts m_older m_products m_part m_parts m_ways m_used m_greaterNow m_countNow) H → va_D A (wX7 cs ad m_n m_order m_shelf m_opens m_lists m_listed m_work m_counts m_older m_products m_part m_parts m_ways m_used m_greaterNow m_countNow) → va_S A s.heap H locs → lv_has ls 8 [(0, .ref (ad 0)), (1, .int x1)] → W p l e ({ frames := 2, cells := 0, slots := 0, locals := 50 } : Room) s m ([.ref (ad 0), .int a1] : List Value).toArray below meth c H locs 0 0 (MQ below (va_Qv (fun (u : (Nat → Int64)) => Q u) (Bw (dC, dI) (KA cs) A (fun u : (Nat → Int64) => (wX7 cs ad m_n m_order m_shelf m_opens m_lists m_listed m_work m_counts m_older m_products m_part m_parts u m_used m_greaterNow m_countNow))) A) ([.ref (ad 0), .int a1] : List Value).toArray s 0 0 A) (F0 m 22 ls []) := by
    intro x1 m_ways H locs ls hq hP hD hS hl
    unfold q7_layWays_22 at hq
    refine lv_aload_n hx hb dX7_layWays_22 rfl (lv_at hl 0 rfl) ?_
    refine va_get (D := (dC, dI)) (ci := 7) (v := .ref (ad 10)) (C := RX7) (T := TX7) (N := 16) hx hb hts uwX7 hown hK hP 0 rfl rfl 12 (by decide) (hts _ fl_X7_45) (fun _ h9 => h9) rfl dX7_layWays_23 ?_
    refine lv_iconst (v := (0 : Int32)) hx hb dX7_layWays_26 (by decide) ?_
    refine lv_lconst (v := (1 : Int64)) hx hb dX7_layWays_27 (by decide) ?_
    obtain ⟨i18, hq⟩ := hq
    refine va_last hx hb hK hP hD hS 10 1 rfl rfl i18 dX7_layWays_28 (fun H locs hP hD hS => ?_)
    have hP : va_P (dC, dI) vwCl (wX7 cs ad m_n m_order m_shelf m_opens m_lists m_listed m_work m_counts m_older m_products m_part m_parts (vp_updL m_ways (0 : Int32).toNatClampNeg (1 : Int64)) m_used m_greaterNow m_countNow) H := hP
    have hD : va_D A (wX7 cs ad m_n m_order m_shelf m_opens m_lists m_listed m_work m_counts m_older m_products m_part m_parts (vp_updL m_ways (0 : Int32).toNatClampNeg (1 : Int64)) m_used m_greaterNow m_countNow) := hD
    refine lv_iconst (v := (1 : Int32)) hx hb dX7_layWays_29 (by decide) ?_
    refine lv_istore_n (lv' := [(2, .int (1 : Int32)), (0, .ref (ad 0)), (1, .int x1)]) hx hb dX7_layWays_30 rfl hl (by decide) rfl (fun ls hl => ?_)
    obtain ⟨kf, hq⟩ := hq
    exact B31 kf x1 (1 : Int32) (vp_updL m_ways (0 : Int32).toNatClampNeg (1 : Int64)) _ _ _ hq hP hD hS (lv_sub hl [1, 2, 0] rfl)
  have B2 : ∀ (k2 : Nat) (x1 : Int32) (x2 : Int32) (m_ways : Nat → Int64) (H : Heap) (locs : List Loc) (ls : Array Slot), q7_layWays_2 m_n Q k2 x1 x2 m_ways → va_P (dC, dI) vwCl (wX7 cs ad m_n m_order m_shelf m_opens m_lists m_listed m_work m_counts m_older m_products m_part m_parts m_ways m_used m_greaterNow m_countNow) H → va_D A (wX7 cs ad m_n m_order m_shelf m_opens m_lists m_listed m_work m_counts m_older m_products m_part m_parts m_ways m_used m_greaterNow m_countNow) → va_S A s.heap H locs → lv_has ls 8 [(0, .ref (ad 0)), (1, .int x1), (2, .int x2)] → W p l e ({ frames := 2, cells := 0, slots := 0, locals := 50 } : Room) s m ([.ref (ad 0), .int a1] : List Value).toArray below meth c H locs 0 0 (MQ below (va_Qv (fun (u : (Nat → Int64)) => Q u) (Bw (dC, dI) (KA cs) A (fun u : (Nat → Int64) => (wX7 cs ad m_n m_order m_shelf m_opens m_lists m_listed m_work m_counts m_older m_products m_part m_parts u m_used m_greaterNow m_countNow))) A) ([.ref (ad 0), .int a1] : List Value).toArray s 0 0 A) (F0 m 2 ls []) := by
    intro k2
    induction k2 with
    | zero => intro x1 x2 m_ways H locs ls hq; exact False.elim hq
    | succ k2 ih2 =>
      intro x1 x2 m_ways H locs ls hq hP hD hS hl
      unfold q7_layWays_2 at hq
      refine lv_iload_n hx hb dX7_layWays_2 rfl (lv_at hl 2 rfl) ?_
      refine lv_sipush (v := (6859 : Int32)) hx hb dX7_layWays_3 (by decide) ?_
      refine lv_icmp_ge (tgt := 22) hx hb dX7_layWays_6 (by decide) (fun c19 => ?_) (fun c19 => ?_)
      · have hq := hq.1 c19
        exact B22 x1 m_ways _ _ _ hq hP hD hS (lv_sub hl [0, 1] rfl)
      · have hq := hq.2 c19
        refine lv_aload_n hx hb dX7_layWays_9 rfl (lv_at hl 0 rfl) ?_
        refine va_get (D := (dC, dI)) (ci := 7) (v := .ref (ad 10)) (C := RX7) (T := TX7) (N := 16) hx hb hts uwX7 hown hK hP 0 rfl rfl 12 (by decide) (hts _ fl_X7_45) (fun _ h9 => h9) rfl dX7_layWays_10 ?_
        refine lv_iload_n hx hb dX7_layWays_13 rfl (lv_at hl 2 rfl) ?_
        refine lv_lconst (v := (0 : Int64)) hx hb dX7_layWays_14 (by decide) ?_
        obtain ⟨i20, hq⟩ := hq
        refine va_last hx hb hK hP hD hS 10 1 rfl rfl i20 dX7_layWays_15 (fun H locs hP hD hS => ?_)
        have hP : va_P (dC, dI) vwCl (wX7 cs ad m_n m_order m_shelf m_opens m_lists m_listed m_work m_counts m_older m_products m_part m_parts (vp_updL m_ways x2.toNatClampNeg (0 : Int64)) m_used m_greaterNow m_countNow) H := hP
        have hD : va_D A (wX7 cs ad m_n m_order m_shelf m_opens m_lists m_listed m_work m_counts m_older m_products m_part m_parts (vp_updL m_ways x2.toNatClampNeg (0 : Int64)) m_used m_greaterNow m_countNow) := hD
        refine lv_iinc (v := (x2 + (1 : Int32))) (lv' := [(2, .int (x2 + (1 : Int32))), (0, .ref (ad 0)), (1, .int x1)]) hx hb dX7_layWays_16 hl (k := 2) rfl (by rfl) (by decide) rfl (fun ls hl => ?_)
        refine lv_goto (tgt := 2) hx hb dX7_layWays_19 (by decide) ?_
        exact ih2 x1 (x2 + (1 : Int32)) (vp_updL m_ways x2.toNatClampNeg (0 : Int64)) _ _ _ hq hP hD hS (lv_sub hl [1, 2, 0] rfl)
  unfold q7_layWays at hq
  refine lv_iconst (v := (0 : Int32)) hx hb dX7_layWays_0 (by decide) ?_
  refine lv_istore_n (lv' := [(2, .int (0 : Int32)), (0, .ref (ad 0)), (1, .int a1)]) hx hb dX7_layWays_1 rfl hl (by decide) rfl (fun ls hl => ?_)
  obtain ⟨kf, hq⟩ := hq
  exact B2 kf a1 (0 : Int32) m_ways _ _ _ hq hP hD hS (lv_sub hl [1, 2, 0] rfl)
set_option maxHeartbeats 4000000 in
set_option maxRecDepth 100000 in
theorem c7_waysAt (l : Launch) (dC : Nat → ClassId) (dI : Nat → Nat → Nat) (cs : Nat → ClassId) (ad : Nat → Nat) (m_n : Int32) (m_order : Nat → Int32) (m_shelf : Nat → Int32) (m_opens : Int32) (m_lists : Nat → Int32) (m_listed : Nat → Int32) (m_work : Nat → Int32) (m_counts : Nat → Int64) (m_older : Nat → Int64) (m_products : Nat → Int64) (m_part : Nat → Int32) (m_parts : Int32) (m_ways : Nat → Int64) (m_used : Int32) (m_greaterNow : Int32) (m_countNow : Int32) (a1 : Int32) (a2 : Int32) (a3 : Int32) {Q : Int64 → Prop} (hq : q7_waysAt m_n m_products m_ways m_greaterNow m_countNow a1 a2 a3 Q) : Met l yX7_waysAt (.code yX7_waysAt cX7_waysAt 6 (some .long) :: gt) ({ frames := 2, cells := 0, slots := 0, locals := 50 } : Room) (va_Pc [.ref (ad 0), .int a1, .int a2, .int a3] (Pr (dC, dI) (KA cs) (wX7 cs ad m_n m_order m_shelf m_opens m_lists m_listed m_work m_counts m_older m_products m_part m_parts m_ways m_used m_greaterNow m_countNow))) (vp_Sl Q) 0 0 (fun _ => False) := by
  refine Met.ofW (cc := cX7_waysAt) (maxL := 6) (ret := (some .long)) (by decide) rfl ?_
  intro p e s m args below meth c s₁ B hml hv
  obtain ⟨rfl, hP, hK, hN⟩ := hv
  have hx := B.exec
  have hb := B.bytes
  have hr := B.returns
  have hts0 := atoms_spec (ws := (.code yX7_waysAt cX7_waysAt 6 (some .long) :: gt)) B.pre
  have hts : ∀ w ∈ gt, w.before _ s = true := fun w h => hts0 w (List.mem_cons_of_mem _ h)
  have hown : s.vm.findClass RX7 = some m.cls := findClass_of_methodNamed B.named
  have hlocks := B.notSynchronized
  have hl := lv_entry ([.ref (ad 0), .int a1, .int a2, .int a3]) (n := 6) (Nat.le_of_ble_eq_true rfl)
  rw [lg_entry_eq]
  generalize (lg_sl ([.ref (ad 0), .int a1, .int a2, .int a3]) ++ List.replicate (6 - (lg_sl ([.ref (ad 0), .int a1, .int a2, .int a3])).length) Slot.unset).toArray = ls at hl ⊢
  have hl : lv_has ls 6 [(0, .ref (ad 0)), (1, .int a1), (2, .int a2), (3, .int a3)] := hl
  have B45 : ∀ (s0 : Int32) (x3 : Int32) (x4 : Int32) (ls : Array Slot), q7_waysAt_45 m_n m_products m_ways m_greaterNow m_countNow Q s0 x3 x4 → lv_has ls 6 [(0, .ref (ad 0)), (3, .int x3), (4, .int x4)] → W p l e ({ frames := 2, cells := 0, slots := 0, locals := 50 } : Room) s m ([.ref (ad 0), .int a1, .int a2, .int a3] : List Value).toArray below meth c s.heap [] 0 0 (MQ below (vp_Sl Q) ([.ref (ad 0), .int a1, .int a2, .int a3] : List Value).toArray s 0 0 (fun _ => False)) (F0 m 45 ls [.int s0]) := by
    intro s0 x3 x4 ls hq hl
    unfold q7_waysAt_45 at hq
    refine lv_istore (lv' := [(5, .int s0), (0, .ref (ad 0)), (3, .int x3), (4, .int x4)]) hx hb dX7_waysAt_45 hl (by decide) rfl (fun ls hl => ?_)
    refine lv_iload hx hb dX7_waysAt_47 (lv_at hl 0 rfl) ?_
    refine lv_if_lt (tgt := 61) hx hb dX7_waysAt_49 (by decide) (fun c10 => ?_) (fun c10 => ?_)
    · have hq := hq.1 c10
      refine lv_lconst (v := (0 : Int64)) hx hb dX7_waysAt_61 (by decide) ?_
      refine lv_goto (tgt := 85) hx hb dX7_waysAt_62 (by decide) ?_
      exact W.lret (v := (0 : Int64)) hx hb hr (fun t ht hW => ⟨(0 : Int64), rfl, hq, ht⟩) (fun q h => absurd h List.not_mem_nil) dX7_waysAt_85
    · have hq := hq.2 c10
      refine lv_iload hx hb dX7_waysAt_52 (lv_at hl 0 rfl) ?_
      refine lv_aload_n hx hb dX7_waysAt_54 rfl (lv_at hl 1 rfl) ?_
      refine va_get (D := (dC, dI)) (ci := 7) (v := .int m_n) (C := RX7) (T := TX7) (N := 16) hx hb hts uwX7 hown hK hP 0 rfl rfl 0 (by decide) (hts _ fl_X7_7) (fun _ h9 => h9) rfl dX7_waysAt_55 ?_
      refine lv_icmp_le (tgt := 65) hx hb dX7_waysAt_58 (by decide) (fun c11 => ?_) (fun c11 => ?_)
      · have hq := hq.1 c11
        refine lv_aload_n hx hb dX7_waysAt_65 rfl (lv_at hl 1 rfl) ?_
        refine va_get (D := (dC, dI)) (ci := 7) (v := .ref (ad 10)) (C := RX7) (T := TX7) (N := 16) hx hb hts uwX7 hown hK hP 0 rfl rfl 12 (by decide) (hts _ fl_X7_45) (fun _ h9 => h9) rfl dX7_waysAt_66 ?_
        refine lv_iload hx hb dX7_waysAt_69 (lv_at hl 3 rfl) ?_
        refine lv_iconst (v := (1 : Int32)) hx hb dX7_waysAt_71 (by decide) ?_
        refine lv_isub hx hb dX7_waysAt_72 ?_
        refine lv_iload hx hb dX7_waysAt_73 (lv_at hl 3 rfl) ?_
        refine lv_iconst (v := (1 : Int32)) hx hb dX7_waysAt_75 (by decide) ?_
        refine lv_isub hx hb dX7_waysAt_76 ?_
        refine lv_iload_n hx hb dX7_waysAt_77 rfl (lv_at hl 2 rfl) ?_
        refine lv_isub hx hb dX7_waysAt_78 ?_
        refine lv_iload hx hb dX7_waysAt_79 (lv_at hl 0 rfl) ?_
        refine roi (runS ⟨hx, hb, hml, hown, hts⟩ ws_X7_wayAt ml_X7_133 (c7_wayAt l dC dI cs   (x4 - (1 : Int32)) ((x4 - (1 : Int32)) - x3) s0 hq) ⟨⟨rfl, rfl⟩, by decide, by decide⟩ (preR va_P_nil hK hN) hN rfl hl.1 rfl (Nat.le_of_ble_eq_true rfl) dX7_waysAt_81 ⟨(Nat.le_of_ble_eq_true rfl), (Nat.le_of_ble_eq_true rfl)⟩) (fun r12 hq => ?_)
        obtain ⟨i13, hq⟩ := hq
        refine va_lald hx hb hK hP 10 1 rfl rfl i13 dX7_waysAt_84 ?_
        exact W.lret (v := (m_ways r12.toNatClampNeg)) hx hb hr (fun t ht hW => ⟨(m_ways r12.toNatClampNeg), rfl, hq, ht⟩) (fun q h => absurd h List.not_mem_nil) dX7_waysAt_85
      · have hq := hq.2 c11
        refine lv_lconst (v := (0 : Int64)) hx hb dX7_waysAt_61 (by decide) ?_
        refine lv_goto (tgt := 85) hx hb dX7_waysAt_62 (by decide) ?_
        exact W.lret (v := (0 : Int64)) hx hb hr (fun t ht hW => ⟨(0 : Int64), rfl, hq, ht⟩) (fun q h => absurd h List.not_mem_nil) dX7_waysAt_85
  unfold q7_waysAt at hq
  refine lv_aload_n hx hb dX7_waysAt_0 rfl (lv_at hl 0 rfl) ?_
  refine va_get (D := (dC, dI)) (ci := 7) (v := .int m_n) (C := RX7) (T := TX7) (N := 16) hx hb hts uwX7 hown hK hP 0 rfl rfl 0 (by decide) (hts _ fl_X7_7) (fun _ h9 => h9) rfl dX7_waysAt_1 ?_
  refine lv_iload_n hx hb dX7_waysAt_4 rfl (lv_at hl 2 rfl) ?_
  refine lv_isub hx hb dX7_waysAt_5 ?_
  refine lv_istore (lv' := [(4, .int (m_n - a2)), (0, .ref (ad 0)), (1, .int a1), (2, .int a2), (3, .int a3)]) hx hb dX7_waysAt_6 hl (by decide) rfl (fun ls hl => ?_)
  refine lv_iload_n hx hb dX7_waysAt_8 rfl (lv_at hl 2 rfl) ?_
  refine lv_iconst (v := (-1 : Int32)) hx hb dX7_waysAt_9 (by decide) ?_
  refine lv_icmp_ne (tgt := 23) hx hb dX7_waysAt_10 (by decide) (fun c14 => ?_) (fun c14 => ?_)
  · have hq := hq.1 c14
    refine lv_iload_n hx hb dX7_waysAt_23 rfl (lv_at hl 3 rfl) ?_
    refine lv_if_ne (tgt := 86) hx hb dX7_waysAt_24 (by decide) (fun c15 => ?_) (fun c15 => ?_)
    · have hq := hq.1 c15
      refine lv_aload_n hx hb dX7_waysAt_86 rfl (lv_at hl 1 rfl) ?_
      refine lv_iload_n hx hb dX7_waysAt_87 rfl (lv_at hl 2 rfl) ?_
      refine lv_iload hx hb dX7_waysAt_88 (lv_at hl 0 rfl) ?_
      refine lv_aload_n hx hb dX7_waysAt_90 rfl (lv_at hl 1 rfl) ?_
      refine va_get (D := (dC, dI)) (ci := 7) (v := .int m_greaterNow) (C := RX7) (T := TX7) (N := 16) hx hb hts uwX7 hown hK hP 0 rfl rfl 14 (by decide) (hts _ fl_X7_140) (fun _ h9 => h9) rfl dX7_waysAt_91 ?_
      refine lv_aload_n hx hb dX7_waysAt_94 rfl (lv_at hl 1 rfl) ?_
      refine va_get (D := (dC, dI)) (ci := 7) (v := .int m_countNow) (C := RX7) (T := TX7) (N := 16) hx hb hts uwX7 hown hK hP 0 rfl rfl 15 (by decide) (hts _ fl_X7_137) (fun _ h9 => h9) rfl dX7_waysAt_95 ?_
      refine lv_iload_n hx hb dX7_waysAt_98 rfl (lv_at hl 4 rfl) ?_
      refine rol (runV ⟨hx, hb, hml, hown, hts⟩ wf_X7_waysBy ml_X7_129 (c7_waysBy l dC dI cs ad m_n m_order m_shelf m_opens m_lists m_listed m_work m_counts m_older m_products m_part m_parts m_ways m_used m_greaterNow m_countNow a1 (m_n - a2) m_greaterNow m_countNow a3 hq) ⟨⟨rfl, rfl⟩, by decide, by decide⟩ (preR hP hK hN) hK hP rfl 0 rfl rfl hl.1 rfl (Nat.le_of_ble_eq_true rfl) dX7_waysAt_99 ⟨(Nat.le_of_ble_eq_true rfl), (Nat.le_of_ble_eq_true rfl)⟩) (fun r16 hq => ?_)
      exact W.lret (v := r16) hx hb hr (fun t ht hW => ⟨r16, rfl, hq, ht⟩) (fun q h => absurd h List.not_mem_nil) dX7_waysAt_102
    · have hq := hq.2 c15
      refine lv_iload_n hx hb dX7_waysAt_27 rfl (lv_at hl 2 rfl) ?_
      refine lv_iconst (v := (1 : Int32)) hx hb dX7_waysAt_28 (by decide) ?_
      refine lv_icmp_ne (tgt := 41) hx hb dX7_waysAt_29 (by decide) (fun c17 => ?_) (fun c17 => ?_)
      · have hq := hq.1 c17
        refine lv_aload_n hx hb dX7_waysAt_41 rfl (lv_at hl 1 rfl) ?_
        refine va_get (D := (dC, dI)) (ci := 7) (v := .int m_countNow) (C := RX7) (T := TX7) (N := 16) hx hb hts uwX7 hown hK hP 0 rfl rfl 15 (by decide) (hts _ fl_X7_137) (fun _ h9 => h9) rfl dX7_waysAt_42 ?_
        exact B45 m_countNow a3 (m_n - a2) _ hq (lv_sub hl [1, 4, 0] rfl)
      · have hq := hq.2 c17
        refine lv_aload_n hx hb dX7_waysAt_32 rfl (lv_at hl 1 rfl) ?_
        refine va_get (D := (dC, dI)) (ci := 7) (v := .int m_countNow) (C := RX7) (T := TX7) (N := 16) hx hb hts uwX7 hown hK hP 0 rfl rfl 15 (by decide) (hts _ fl_X7_137) (fun _ h9 => h9) rfl dX7_waysAt_33 ?_
        refine lv_iconst (v := (1 : Int32)) hx hb dX7_waysAt_36 (by decide) ?_
        refine lv_isub hx hb dX7_waysAt_37 ?_
        refine lv_goto (tgt := 45) hx hb dX7_waysAt_38 (by decide) ?_
        exact B45 (m_countNow - (1 : Int32)) a3 (m_n - a2) _ hq (lv_sub hl [1, 4, 0] rfl)
  · have hq := hq.2 c14
    refine lv_aload_n hx hb dX7_waysAt_13 rfl (lv_at hl 1 rfl) ?_
    refine va_get (D := (dC, dI)) (ci := 7) (v := .ref (ad 8)) (C := RX7) (T := TX7) (N := 16) hx hb hts uwX7 hown hK hP 0 rfl rfl 9 (by decide) (hts _ fl_X7_39) (fun _ h9 => h9) rfl dX7_waysAt_14 ?_
    refine lv_iload hx hb dX7_waysAt_17 (lv_at hl 0 rfl) ?_
    refine lv_iconst (v := (1 : Int32)) hx hb dX7_waysAt_19 (by decide) ?_
    refine lv_isub hx hb dX7_waysAt_20 ?_
    obtain ⟨i18, hq⟩ := hq
    refine va_lald hx hb hK hP 8 1 rfl rfl i18 dX7_waysAt_21 ?_
    exact W.lret (v := (m_products ((m_n - a2) - (1 : Int32)).toNatClampNeg)) hx hb hr (fun t ht hW => ⟨(m_products ((m_n - a2) - (1 : Int32)).toNatClampNeg), rfl, hq, ht⟩) (fun q h => absurd h List.not_mem_nil) dX7_waysAt_22
set_option maxHeartbeats 4000000 in
set_option maxRecDepth 100000 in
theorem c7_put (l : Launch) (dC : Nat → ClassId) (dI : Nat → Nat → Nat) (cs : Nat → ClassId) (ad : Nat → Nat) (sz : Nat) (m_n : Int32) (m_order : Nat → Int32) (m_shelf : Nat → Int32) (m_opens : Int32) (m_lists : Nat → Int32) (m_listed : Nat → Int32) (m_work : Nat → Int32) (m_counts : Nat → Int64) (m_older : Nat → Int64) (m_products : Nat → Int64) (m_part : Nat → Int32) (m_parts : Int32) (m_ways : Nat → Int64) (m_used : Int32) (m_greaterNow : Int32) (m_countNow : Int32) (a1 : Int32) (a2 : Int32) (a3 : Int32) {Q : (Nat → Int32) → Int32 → Int32 → Int32 → Prop} (hq : q7_put m_n m_work m_used m_greaterNow m_countNow a1 a2 a3 Q) : Met l yX7_put (.code yX7_put cX7_put 8 none :: gt) ({ frames := 0, cells := 0, slots := 0, locals := 0 } : Room) (va_Pc [.ref (ad 0), .int a1, .int a2, .int a3] (Pw (dC, dI) (KA cs) (wX7 cs ad m_n m_order m_shelf m_opens m_lists m_listed m_work m_counts m_older m_products m_part m_parts m_ways m_used m_greaterNow m_countNow) sz)) (va_Qv (fun (u : (Nat → Int32) × Int32 × Int32 × Int32) => Q u.1 u.2.1 u.2.2.1 u.2.2.2) (Bw (dC, dI) (KA cs) (va_A (wX7 cs ad m_n m_order m_shelf m_opens m_lists m_listed m_work m_counts m_older m_products m_part m_parts m_ways m_used m_greaterNow m_countNow) sz) (fun u : (Nat → Int32) × Int32 × Int32 × Int32 => (wX7 cs ad m_n m_order m_shelf m_opens m_lists m_listed u.1 m_counts m_older m_products m_part m_parts m_ways u.2.1 u.2.2.1 u.2.2.2))) (va_A (wX7 cs ad m_n m_order m_shelf m_opens m_lists m_listed m_work m_counts m_older m_products m_part m_parts m_ways m_used m_greaterNow m_countNow) sz)) 0 0 (va_A (wX7 cs ad m_n m_order m_shelf m_opens m_lists m_listed m_work m_counts m_older m_products m_part m_parts m_ways m_used m_greaterNow m_countNow) sz) := by
  refine Met.ofW (cc := cX7_put) (maxL := 8) (ret := none) (by decide) rfl ?_
  intro p e s m args below meth c s₁ B hml hv
  obtain ⟨rfl, hsz, hP, hK, hD0, hN⟩ := hv
  have hx := B.exec
  have hb := B.bytes
  have hr := B.returns
  have hts0 := atoms_spec (ws := (.code yX7_put cX7_put 8 none :: gt)) B.pre
  have hts : ∀ w ∈ gt, w.before _ s = true := fun w h => hts0 w (List.mem_cons_of_mem _ h)
  have hown : s.vm.findClass RX7 = some m.cls := findClass_of_methodNamed B.named
  have hlocks := B.notSynchronized
  subst hsz
  have hD := hD0.self (sz := s.heap.size)
  generalize hAe : va_A (wX7 cs ad m_n m_order m_shelf m_opens m_lists m_listed m_work m_counts m_older m_products m_part m_parts m_ways m_used m_greaterNow m_countNow) s.heap.size = A at hD ⊢
  have hA : ∀ q : Nat, s.heap.size ≤ q → A q := fun q h => by rw [← hAe]; exact Or.inr h
  have hS : va_S A s.heap s.heap [] := va_S.rf
  have hl := lv_entry ([.ref (ad 0), .int a1, .int a2, .int a3]) (n := 8) (Nat.le_of_ble_eq_true rfl)
  rw [lg_entry_eq]
  generalize (lg_sl ([.ref (ad 0), .int a1, .int a2, .int a3]) ++ List.replicate (8 - (lg_sl ([.ref (ad 0), .int a1, .int a2, .int a3])).length) Slot.unset).toArray = ls at hl ⊢
  have hl : lv_has ls 8 [(0, .ref (ad 0)), (1, .int a1), (2, .int a2), (3, .int a3)] := hl
  have B141 : ∀ (x2 : Int32) (x6 : Int32) (m_work : Nat → Int32) (m_used : Int32) (m_greaterNow : Int32) (m_countNow : Int32) (H : Heap) (locs : List Loc) (ls : Array Slot), q7_put_141 m_n Q x2 x6 m_work m_used m_greaterNow m_countNow → va_P (dC, dI) vwCl (wX7 cs ad m_n m_order m_shelf m_opens m_lists m_listed m_work m_counts m_older m_products m_part m_parts m_ways m_used m_greaterNow m_countNow) H → va_D A (wX7 cs ad m_n m_order m_shelf m_opens m_lists m_listed m_work m_counts m_older m_products m_part m_parts m_ways m_used m_greaterNow m_countNow) → va_S A s.heap H locs → lv_has ls 8 [(0, .ref (ad 0)), (2, .int x2), (6, .int x6)] → W p l e ({ frames := 0, cells := 0, slots := 0, locals := 0 } : Room) s m ([.ref (ad 0), .int a1, .int a2, .int a3] : List Value).toArray below meth c H locs 0 0 (MQ below (va_Qv (fun (u : (Nat → Int32) × Int32 × Int32 × Int32) => Q u.1 u.2.1 u.2.2.1 u.2.2.2) (Bw (dC, dI) (KA cs) A (fun u : (Nat → Int32) × Int32 × Int32 × Int32 => (wX7 cs ad m_n m_order m_shelf m_opens m_lists m_listed u.1 m_counts m_older m_products m_part m_parts m_ways u.2.1 u.2.2.1 u.2.2.2))) A) ([.ref (ad 0), .int a1, .int a2, .int a3] : List Value).toArray s 0 0 A) (F0 m 141 ls []) := by
    intro x2 x6 m_work m_used m_greaterNow m_countNow H locs ls hq hP hD hS hl
    unfold q7_put_141 at hq
    refine lv_aload_n hx hb dX7_put_141 rfl (lv_at hl 0 rfl) ?_
    refine lv_dup hx hb dX7_put_142 rfl ?_
    refine va_get (D := (dC, dI)) (ci := 7) (v := .int m_used) (C := RX7) (T := TX7) (N := 16) hx hb hts uwX7 hown hK hP 0 rfl rfl 13 (by decide) (hts _ fl_X7_143) (fun _ h9 => h9) rfl dX7_put_143 ?_
    refine lv_iconst (v := (1 : Int32)) hx hb dX7_put_146 (by decide) ?_
    refine lv_iload hx hb dX7_put_147 (lv_at hl 2 rfl) ?_
    refine lv_ishl hx hb dX7_put_149 ?_
    refine lv_ior hx hb dX7_put_150 ?_
    refine va_put (D := (dC, dI)) (ci := 7) (v := .int (m_used ||| ((1 : Int32) <<< (x6 &&& 31)))) (ty := .int) (C := RX7) (T := TX7) (N := 16) hx hb hts uwX7 tyX7 tyX7_ok nmX7 hown hK hP hD hS 0 rfl rfl 13 (by decide) (hts _ fl_X7_143) (fun _ h9 => h9) rfl (by decide +kernel) rfl rfl (Nat.le_of_ble_eq_true rfl) dX7_put_151 (fun H locs hP hD hS => ?_)
    have hP : va_P (dC, dI) vwCl (wX7 cs ad m_n m_order m_shelf m_opens m_lists m_listed m_work m_counts m_older m_products m_part m_parts m_ways (m_used ||| ((1 : Int32) <<< (x6 &&& 31))) m_greaterNow m_countNow) H := hP
    have hD : va_D A (wX7 cs ad m_n m_order m_shelf m_opens m_lists m_listed m_work m_counts m_older m_products m_part m_parts m_ways (m_used ||| ((1 : Int32) <<< (x6 &&& 31))) m_greaterNow m_countNow) := hD
    refine lv_aload_n hx hb dX7_put_154 rfl (lv_at hl 0 rfl) ?_
    refine va_get (D := (dC, dI)) (ci := 7) (v := .ref (ad 5)) (C := RX7) (T := TX7) (N := 16) hx hb hts uwX7 hown hK hP 0 rfl rfl 6 (by decide) (hts _ fl_X7_29) (fun _ h9 => h9) rfl dX7_put_155 ?_
    refine lv_iload_n hx hb dX7_put_158 rfl (lv_at hl 1 rfl) ?_
    refine lv_iload hx hb dX7_put_159 (lv_at hl 2 rfl) ?_
    obtain ⟨i13, hq⟩ := hq
    refine va_iast hx hb hK hP hD hS 5 0 rfl rfl i13 dX7_put_161 (fun H locs hP hD hS => ?_)
    have hP : va_P (dC, dI) vwCl (wX7 cs ad m_n m_order m_shelf m_opens m_lists m_listed (upd m_work x2.toNatClampNeg x6) m_counts m_older m_products m_part m_parts m_ways (m_used ||| ((1 : Int32) <<< (x6 &&& 31))) m_greaterNow m_countNow) H := hP
    have hD : va_D A (wX7 cs ad m_n m_order m_shelf m_opens m_lists m_listed (upd m_work x2.toNatClampNeg x6) m_counts m_older m_products m_part m_parts m_ways (m_used ||| ((1 : Int32) <<< (x6 &&& 31))) m_greaterNow m_countNow) := hD
    exact W.vret hx hb hr (fun t ht hW => ⟨⟨((upd m_work x2.toNatClampNeg x6), (m_used ||| ((1 : Int32) <<< (x6 &&& 31))), m_greaterNow, m_countNow), rfl, hq, Bw_mk (by rw [ht]; exact hP) (va_K.moved hW.alike hK) hD⟩, hS.F ht⟩) hS.2.2 dX7_put_162
  have B95 : ∀ (k95 : Nat) (x2 : Int32) (x6 : Int32) (x7 : Int32) (m_work : Nat → Int32) (m_used : Int32) (m_greaterNow : Int32) (m_countNow : Int32) (H : Heap) (locs : List Loc) (ls : Array Slot), q7_put_95 m_n Q k95 x2 x6 x7 m_work m_used m_greaterNow m_countNow → va_P (dC, dI) vwCl (wX7 cs ad m_n m_order m_shelf m_opens m_lists m_listed m_work m_counts m_older m_products m_part m_parts m_ways m_used m_greaterNow m_countNow) H → va_D A (wX7 cs ad m_n m_order m_shelf m_opens m_lists m_listed m_work m_counts m_older m_products m_part m_parts m_ways m_used m_greaterNow m_countNow) → va_S A s.heap H locs → lv_has ls 8 [(0, .ref (ad 0)), (2, .int x2), (6, .int x6), (7, .int x7)] → W p l e ({ frames := 0, cells := 0, slots := 0, locals := 0 } : Room) s m ([.ref (ad 0), .int a1, .int a2, .int a3] : List Value).toArray below meth c H locs 0 0 (MQ below (va_Qv (fun (u : (Nat → Int32) × Int32 × Int32 × Int32) => Q u.1 u.2.1 u.2.2.1 u.2.2.2) (Bw (dC, dI) (KA cs) A (fun u : (Nat → Int32) × Int32 × Int32 × Int32 => (wX7 cs ad m_n m_order m_shelf m_opens m_lists m_listed u.1 m_counts m_older m_products m_part m_parts m_ways u.2.1 u.2.2.1 u.2.2.2))) A) ([.ref (ad 0), .int a1, .int a2, .int a3] : List Value).toArray s 0 0 A) (F0 m 95 ls []) := by
    intro k95
    induction k95 with
    | zero => intro x2 x6 x7 m_work m_used m_greaterNow m_countNow H locs ls hq; exact False.elim hq
    | succ k95 ih95 =>
      intro x2 x6 x7 m_work m_used m_greaterNow m_countNow H locs ls hq hP hD hS hl
      have B132 : ∀ (s0 : Int32) (s1 : Int32) (x2 : Int32) (x6 : Int32) (m_work : Nat → Int32) (m_used : Int32) (m_greaterNow : Int32) (m_countNow : Int32) (H : Heap) (locs : List Loc) (ls : Array Slot), q7_put_132 m_n (fun v0 v1 v2 v3 v4 v5 v6 => q7_put_95 m_n Q k95 v0 v1 v2 v3 v4 v5 v6) Q s0 s1 x2 x6 m_work m_used m_greaterNow m_countNow → va_P (dC, dI) vwCl (wX7 cs ad m_n m_order m_shelf m_opens m_lists m_listed m_work m_counts m_older m_products m_part m_parts m_ways m_used m_greaterNow m_countNow) H → va_D A (wX7 cs ad m_n m_order m_shelf m_opens m_lists m_listed m_work m_counts m_older m_products m_part m_parts m_ways m_used m_greaterNow m_countNow) → va_S A s.heap H locs → lv_has ls 8 [(0, .ref (ad 0)), (2, .int x2), (6, .int x6)] → W p l e ({ frames := 0, cells := 0, slots := 0, locals := 0 } : Room) s m ([.ref (ad 0), .int a1, .int a2, .int a3] : List Value).toArray below meth c H locs 0 0 (MQ below (va_Qv (fun (u : (Nat → Int32) × Int32 × Int32 × Int32) => Q u.1 u.2.1 u.2.2.1 u.2.2.2) (Bw (dC, dI) (KA cs) A (fun u : (Nat → Int32) × Int32 × Int32 × Int32 => (wX7 cs ad m_n m_order m_shelf m_opens m_lists m_listed u.1 m_counts m_older m_products m_part m_parts m_ways u.2.1 u.2.2.1 u.2.2.2))) A) ([.ref (ad 0), .int a1, .int a2, .int a3] : List Value).toArray s 0 0 A) (F0 m 132 ls [.int s1, .int s0]) := by
        intro s0 s1 x2 x6 m_work m_used m_greaterNow m_countNow H locs ls hq hP hD hS hl
        unfold q7_put_132 at hq
        refine lv_isub hx hb dX7_put_132 ?_
        refine lv_istore (lv' := [(7, .int (s0 - s1)), (0, .ref (ad 0)), (2, .int x2), (6, .int x6)]) hx hb dX7_put_133 hl (by decide) rfl (fun ls hl => ?_)
        refine lv_iinc (v := (x6 + (1 : Int32))) (lv' := [(6, .int (x6 + (1 : Int32))), (7, .int (s0 - s1)), (0, .ref (ad 0)), (2, .int x2)]) hx hb dX7_put_135 hl (k := 3) rfl (by rfl) (by decide) rfl (fun ls hl => ?_)
        refine lv_goto (tgt := 95) hx hb dX7_put_138 (by decide) ?_
        exact ih95 x2 (x6 + (1 : Int32)) (s0 - s1) m_work m_used m_greaterNow m_countNow _ _ _ hq hP hD hS (lv_sub hl [2, 3, 0, 1] rfl)
      have B113 : ∀ (x2 : Int32) (x6 : Int32) (x7 : Int32) (m_work : Nat → Int32) (m_used : Int32) (m_greaterNow : Int32) (m_countNow : Int32) (H : Heap) (locs : List Loc) (ls : Array Slot), q7_put_113 m_n (fun v0 v1 v2 v3 v4 v5 v6 => q7_put_95 m_n Q k95 v0 v1 v2 v3 v4 v5 v6) Q x2 x6 x7 m_work m_used m_greaterNow m_countNow → va_P (dC, dI) vwCl (wX7 cs ad m_n m_order m_shelf m_opens m_lists m_listed m_work m_counts m_older m_products m_part m_parts m_ways m_used m_greaterNow m_countNow) H → va_D A (wX7 cs ad m_n m_order m_shelf m_opens m_lists m_listed m_work m_counts m_older m_products m_part m_parts m_ways m_used m_greaterNow m_countNow) → va_S A s.heap H locs → lv_has ls 8 [(0, .ref (ad 0)), (2, .int x2), (6, .int x6), (7, .int x7)] → W p l e ({ frames := 0, cells := 0, slots := 0, locals := 0 } : Room) s m ([.ref (ad 0), .int a1, .int a2, .int a3] : List Value).toArray below meth c H locs 0 0 (MQ below (va_Qv (fun (u : (Nat → Int32) × Int32 × Int32 × Int32) => Q u.1 u.2.1 u.2.2.1 u.2.2.2) (Bw (dC, dI) (KA cs) A (fun u : (Nat → Int32) × Int32 × Int32 × Int32 => (wX7 cs ad m_n m_order m_shelf m_opens m_lists m_listed u.1 m_counts m_older m_products m_part m_parts m_ways u.2.1 u.2.2.1 u.2.2.2))) A) ([.ref (ad 0), .int a1, .int a2, .int a3] : List Value).toArray s 0 0 A) (F0 m 113 ls []) := by
        intro x2 x6 x7 m_work m_used m_greaterNow m_countNow H locs ls hq hP hD hS hl
        unfold q7_put_113 at hq
        refine lv_iload hx hb dX7_put_113 (lv_at hl 3 rfl) ?_
        refine lv_aload_n hx hb dX7_put_115 rfl (lv_at hl 0 rfl) ?_
        refine va_get (D := (dC, dI)) (ci := 7) (v := .int m_used) (C := RX7) (T := TX7) (N := 16) hx hb hts uwX7 hown hK hP 0 rfl rfl 13 (by decide) (hts _ fl_X7_143) (fun _ h9 => h9) rfl dX7_put_116 ?_
        refine lv_iload hx hb dX7_put_119 (lv_at hl 2 rfl) ?_
        refine lv_ishr hx hb dX7_put_121 ?_
        refine lv_iconst (v := (1 : Int32)) hx hb dX7_put_122 (by decide) ?_
        refine lv_iand hx hb dX7_put_123 ?_
        refine lv_if_ne (tgt := 131) hx hb dX7_put_124 (by decide) (fun c14 => ?_) (fun c14 => ?_)
        · have hq := hq.1 c14
          refine lv_iconst (v := (0 : Int32)) hx hb dX7_put_131 (by decide) ?_
          exact B132 x7 (0 : Int32) x2 x6 m_work m_used m_greaterNow m_countNow _ _ _ hq hP hD hS (lv_sub hl [0, 1, 2] rfl)
        · have hq := hq.2 c14
          refine lv_iconst (v := (1 : Int32)) hx hb dX7_put_127 (by decide) ?_
          refine lv_goto (tgt := 132) hx hb dX7_put_128 (by decide) ?_
          exact B132 x7 (1 : Int32) x2 x6 m_work m_used m_greaterNow m_countNow _ _ _ hq hP hD hS (lv_sub hl [0, 1, 2] rfl)
      unfold q7_put_95 at hq
      refine lv_aload_n hx hb dX7_put_95 rfl (lv_at hl 0 rfl) ?_
      refine va_get (D := (dC, dI)) (ci := 7) (v := .int m_used) (C := RX7) (T := TX7) (N := 16) hx hb hts uwX7 hown hK hP 0 rfl rfl 13 (by decide) (hts _ fl_X7_143) (fun _ h9 => h9) rfl dX7_put_96 ?_
      refine lv_iload hx hb dX7_put_99 (lv_at hl 2 rfl) ?_
      refine lv_ishr hx hb dX7_put_101 ?_
      refine lv_iconst (v := (1 : Int32)) hx hb dX7_put_102 (by decide) ?_
      refine lv_iand hx hb dX7_put_103 ?_
      refine lv_iconst (v := (1 : Int32)) hx hb dX7_put_104 (by decide) ?_
      refine lv_icmp_eq (tgt := 113) hx hb dX7_put_105 (by decide) (fun c15 => ?_) (fun c15 => ?_)
      · have hq := hq.1 c15
        exact B113 x2 x6 x7 m_work m_used m_greaterNow m_countNow _ _ _ hq hP hD hS (lv_sub hl [0, 1, 2, 3] rfl)
      · have hq := hq.2 c15
        refine lv_iload hx hb dX7_put_108 (lv_at hl 3 rfl) ?_
        refine lv_if_le (tgt := 141) hx hb dX7_put_110 (by decide) (fun c16 => ?_) (fun c16 => ?_)
        · have hq := hq.1 c16
          exact B141 x2 x6 m_work m_used m_greaterNow m_countNow _ _ _ hq hP hD hS (lv_sub hl [0, 1, 2] rfl)
        · have hq := hq.2 c16
          exact B113 x2 x6 x7 m_work m_used m_greaterNow m_countNow _ _ _ hq hP hD hS (lv_sub hl [0, 1, 2, 3] rfl)
  have B86 : ∀ (s1 : Int32) (x2 : Int32) (x3 : Int32) (m_work : Nat → Int32) (m_used : Int32) (m_greaterNow : Int32) (m_countNow : Int32) (H : Heap) (locs : List Loc) (ls : Array Slot), q7_put_86 m_n Q s1 x2 x3 m_work m_used m_greaterNow m_countNow → va_P (dC, dI) vwCl (wX7 cs ad m_n m_order m_shelf m_opens m_lists m_listed m_work m_counts m_older m_products m_part m_parts m_ways m_used m_greaterNow m_countNow) H → va_D A (wX7 cs ad m_n m_order m_shelf m_opens m_lists m_listed m_work m_counts m_older m_products m_part m_parts m_ways m_used m_greaterNow m_countNow) → va_S A s.heap H locs → lv_has ls 8 [(0, .ref (ad 0)), (2, .int x2), (3, .int x3)] → W p l e ({ frames := 0, cells := 0, slots := 0, locals := 0 } : Room) s m ([.ref (ad 0), .int a1, .int a2, .int a3] : List Value).toArray below meth c H locs 0 0 (MQ below (va_Qv (fun (u : (Nat → Int32) × Int32 × Int32 × Int32) => Q u.1 u.2.1 u.2.2.1 u.2.2.2) (Bw (dC, dI) (KA cs) A (fun u : (Nat → Int32) × Int32 × Int32 × Int32 => (wX7 cs ad m_n m_order m_shelf m_opens m_lists m_listed u.1 m_counts m_older m_products m_part m_parts m_ways u.2.1 u.2.2.1 u.2.2.2))) A) ([.ref (ad 0), .int a1, .int a2, .int a3] : List Value).toArray s 0 0 A) (F0 m 86 ls [.int s1, .ref (ad 0)]) := by
    intro s1 x2 x3 m_work m_used m_greaterNow m_countNow H locs ls hq hP hD hS hl
    unfold q7_put_86 at hq
    refine va_put (D := (dC, dI)) (ci := 7) (v := .int s1) (ty := .int) (C := RX7) (T := TX7) (N := 16) hx hb hts uwX7 tyX7 tyX7_ok nmX7 hown hK hP hD hS 0 rfl rfl 14 (by decide) (hts _ fl_X7_140) (fun _ h9 => h9) rfl (by decide +kernel) rfl rfl (Nat.le_of_ble_eq_true rfl) dX7_put_86 (fun H locs hP hD hS => ?_)
    have hP : va_P (dC, dI) vwCl (wX7 cs ad m_n m_order m_shelf m_opens m_lists m_listed m_work m_counts m_older m_products m_part m_parts m_ways m_used s1 m_countNow) H := hP
    have hD : va_D A (wX7 cs ad m_n m_order m_shelf m_opens m_lists m_listed m_work m_counts m_older m_products m_part m_parts m_ways m_used s1 m_countNow) := hD
    refine lv_iconst (v := (0 : Int32)) hx hb dX7_put_89 (by decide) ?_
    refine lv_istore (lv' := [(6, .int (0 : Int32)), (0, .ref (ad 0)), (2, .int x2), (3, .int x3)]) hx hb dX7_put_90 hl (by decide) rfl (fun ls hl => ?_)
    refine lv_iload_n hx hb dX7_put_92 rfl (lv_at hl 3 rfl) ?_
    refine lv_istore (lv' := [(7, .int x3), (6, .int (0 : Int32)), (0, .ref (ad 0)), (2, .int x2), (3, .int x3)]) hx hb dX7_put_93 hl (by decide) rfl (fun ls hl => ?_)
    obtain ⟨kf, hq⟩ := hq
    exact B95 kf x2 (0 : Int32) x3 m_work m_used s1 m_countNow _ _ _ hq hP hD hS (lv_sub hl [2, 3, 1, 0] rfl)
  have B73 : ∀ (x2 : Int32) (x3 : Int32) (x4 : Int32) (m_work : Nat → Int32) (m_used : Int32) (m_greaterNow : Int32) (m_countNow : Int32) (H : Heap) (locs : List Loc) (ls : Array Slot), q7_put_73 m_n Q x2 x3 x4 m_work m_used m_greaterNow m_countNow → va_P (dC, dI) vwCl (wX7 cs ad m_n m_order m_shelf m_opens m_lists m_listed m_work m_counts m_older m_products m_part m_parts m_ways m_used m_greaterNow m_countNow) H → va_D A (wX7 cs ad m_n m_order m_shelf m_opens m_lists m_listed m_work m_counts m_older m_products m_part m_parts m_ways m_used m_greaterNow m_countNow) → va_S A s.heap H locs → lv_has ls 8 [(0, .ref (ad 0)), (2, .int x2), (3, .int x3), (4, .int x4)] → W p l e ({ frames := 0, cells := 0, slots := 0, locals := 0 } : Room) s m ([.ref (ad 0), .int a1, .int a2, .int a3] : List Value).toArray below meth c H locs 0 0 (MQ below (va_Qv (fun (u : (Nat → Int32) × Int32 × Int32 × Int32) => Q u.1 u.2.1 u.2.2.1 u.2.2.2) (Bw (dC, dI) (KA cs) A (fun u : (Nat → Int32) × Int32 × Int32 × Int32 => (wX7 cs ad m_n m_order m_shelf m_opens m_lists m_listed u.1 m_counts m_older m_products m_part m_parts m_ways u.2.1 u.2.2.1 u.2.2.2))) A) ([.ref (ad 0), .int a1, .int a2, .int a3] : List Value).toArray s 0 0 A) (F0 m 73 ls [.ref (ad 0)]) := by
    intro x2 x3 x4 m_work m_used m_greaterNow m_countNow H locs ls hq hP hD hS hl
    unfold q7_put_73 at hq
    refine lv_iload hx hb dX7_put_73 (lv_at hl 3 rfl) ?_
    refine lv_iconst (v := (1 : Int32)) hx hb dX7_put_75 (by decide) ?_
    refine lv_isub hx hb dX7_put_76 ?_
    refine lv_iload_n hx hb dX7_put_77 rfl (lv_at hl 2 rfl) ?_
    refine lv_isub hx hb dX7_put_78 ?_
    refine lv_goto (tgt := 86) hx hb dX7_put_79 (by decide) ?_
    exact B86 ((x4 - (1 : Int32)) - x3) x2 x3 m_work m_used m_greaterNow m_countNow _ _ _ hq hP hD hS (lv_sub hl [0, 1, 2] rfl)
  have B54 : ∀ (s1 : Int32) (s2 : Int32) (x1 : Int32) (x2 : Int32) (x3 : Int32) (x4 : Int32) (x5 : Int32) (m_work : Nat → Int32) (m_used : Int32) (m_greaterNow : Int32) (m_countNow : Int32) (H : Heap) (locs : List Loc) (ls : Array Slot), q7_put_54 m_n Q s1 s2 x1 x2 x3 x4 x5 m_work m_used m_greaterNow m_countNow → va_P (dC, dI) vwCl (wX7 cs ad m_n m_order m_shelf m_opens m_lists m_listed m_work m_counts m_older m_products m_part m_parts m_ways m_used m_greaterNow m_countNow) H → va_D A (wX7 cs ad m_n m_order m_shelf m_opens m_lists m_listed m_work m_counts m_older m_products m_part m_parts m_ways m_used m_greaterNow m_countNow) → va_S A s.heap H locs → lv_has ls 8 [(0, .ref (ad 0)), (1, .int x1), (2, .int x2), (3, .int x3), (4, .int x4), (5, .int x5)] → W p l e ({ frames := 0, cells := 0, slots := 0, locals := 0 } : Room) s m ([.ref (ad 0), .int a1, .int a2, .int a3] : List Value).toArray below meth c H locs 0 0 (MQ below (va_Qv (fun (u : (Nat → Int32) × Int32 × Int32 × Int32) => Q u.1 u.2.1 u.2.2.1 u.2.2.2) (Bw (dC, dI) (KA cs) A (fun u : (Nat → Int32) × Int32 × Int32 × Int32 => (wX7 cs ad m_n m_order m_shelf m_opens m_lists m_listed u.1 m_counts m_older m_products m_part m_parts m_ways u.2.1 u.2.2.1 u.2.2.2))) A) ([.ref (ad 0), .int a1, .int a2, .int a3] : List Value).toArray s 0 0 A) (F0 m 54 ls [.int s2, .int s1, .ref (ad 0)]) := by
    intro s1 s2 x1 x2 x3 x4 x5 m_work m_used m_greaterNow m_countNow H locs ls hq hP hD hS hl
    unfold q7_put_54 at hq
    refine lv_isub hx hb dX7_put_54 ?_
    refine va_put (D := (dC, dI)) (ci := 7) (v := .int (s1 - s2)) (ty := .int) (C := RX7) (T := TX7) (N := 16) hx hb hts uwX7 tyX7 tyX7_ok nmX7 hown hK hP hD hS 0 rfl rfl 15 (by decide) (hts _ fl_X7_137) (fun _ h9 => h9) rfl (by decide +kernel) rfl rfl (Nat.le_of_ble_eq_true rfl) dX7_put_55 (fun H locs hP hD hS => ?_)
    have hP : va_P (dC, dI) vwCl (wX7 cs ad m_n m_order m_shelf m_opens m_lists m_listed m_work m_counts m_older m_products m_part m_parts m_ways m_used m_greaterNow (s1 - s2)) H := hP
    have hD : va_D A (wX7 cs ad m_n m_order m_shelf m_opens m_lists m_listed m_work m_counts m_older m_products m_part m_parts m_ways m_used m_greaterNow (s1 - s2)) := hD
    refine lv_aload_n hx hb dX7_put_58 rfl (lv_at hl 0 rfl) ?_
    refine lv_iload_n hx hb dX7_put_59 rfl (lv_at hl 1 rfl) ?_
    refine lv_iconst (v := (2 : Int32)) hx hb dX7_put_60 (by decide) ?_
    refine lv_icmp_eq (tgt := 73) hx hb dX7_put_61 (by decide) (fun c17 => ?_) (fun c17 => ?_)
    · have hq := hq.1 c17
      exact B73 x2 x3 x4 m_work m_used m_greaterNow (s1 - s2) _ _ _ hq hP hD hS (lv_sub hl [0, 2, 3, 4] rfl)
    · have hq := hq.2 c17
      refine lv_iload_n hx hb dX7_put_64 rfl (lv_at hl 2 rfl) ?_
      refine lv_if_eq (tgt := 73) hx hb dX7_put_65 (by decide) (fun c18 => ?_) (fun c18 => ?_)
      · have hq := hq.1 c18
        exact B73 x2 x3 x4 m_work m_used m_greaterNow (s1 - s2) _ _ _ hq hP hD hS (lv_sub hl [0, 2, 3, 4] rfl)
      · have hq := hq.2 c18
        refine lv_iload hx hb dX7_put_68 (lv_at hl 5 rfl) ?_
        refine lv_if_eq (tgt := 82) hx hb dX7_put_70 (by decide) (fun c19 => ?_) (fun c19 => ?_)
        · have hq := hq.1 c19
          refine lv_aload_n hx hb dX7_put_82 rfl (lv_at hl 0 rfl) ?_
          refine va_get (D := (dC, dI)) (ci := 7) (v := .int m_greaterNow) (C := RX7) (T := TX7) (N := 16) hx hb hts uwX7 hown hK hP 0 rfl rfl 14 (by decide) (hts _ fl_X7_140) (fun _ h9 => h9) rfl dX7_put_83 ?_
          exact B86 m_greaterNow x2 x3 m_work m_used m_greaterNow (s1 - s2) _ _ _ hq hP hD hS (lv_sub hl [0, 2, 3] rfl)
        · have hq := hq.2 c19
          exact B73 x2 x3 x4 m_work m_used m_greaterNow (s1 - s2) _ _ _ hq hP hD hS (lv_sub hl [0, 2, 3, 4] rfl)
  have B44 : ∀ (s1 : Int32) (x1 : Int32) (x2 : Int32) (x3 : Int32) (x4 : Int32) (x5 : Int32) (m_work : Nat → Int32) (m_used : Int32) (m_greaterNow : Int32) (m_countNow : Int32) (H : Heap) (locs : List Loc) (ls : Array Slot), q7_put_44 m_n Q s1 x1 x2 x3 x4 x5 m_work m_used m_greaterNow m_countNow → va_P (dC, dI) vwCl (wX7 cs ad m_n m_order m_shelf m_opens m_lists m_listed m_work m_counts m_older m_products m_part m_parts m_ways m_used m_greaterNow m_countNow) H → va_D A (wX7 cs ad m_n m_order m_shelf m_opens m_lists m_listed m_work m_counts m_older m_products m_part m_parts m_ways m_used m_greaterNow m_countNow) → va_S A s.heap H locs → lv_has ls 8 [(0, .ref (ad 0)), (1, .int x1), (2, .int x2), (3, .int x3), (4, .int x4), (5, .int x5)] → W p l e ({ frames := 0, cells := 0, slots := 0, locals := 0 } : Room) s m ([.ref (ad 0), .int a1, .int a2, .int a3] : List Value).toArray below meth c H locs 0 0 (MQ below (va_Qv (fun (u : (Nat → Int32) × Int32 × Int32 × Int32) => Q u.1 u.2.1 u.2.2.1 u.2.2.2) (Bw (dC, dI) (KA cs) A (fun u : (Nat → Int32) × Int32 × Int32 × Int32 => (wX7 cs ad m_n m_order m_shelf m_opens m_lists m_listed u.1 m_counts m_older m_products m_part m_parts m_ways u.2.1 u.2.2.1 u.2.2.2))) A) ([.ref (ad 0), .int a1, .int a2, .int a3] : List Value).toArray s 0 0 A) (F0 m 44 ls [.int s1, .ref (ad 0)]) := by
    intro s1 x1 x2 x3 x4 x5 m_work m_used m_greaterNow m_countNow H locs ls hq hP hD hS hl
    unfold q7_put_44 at hq
    refine lv_iload hx hb dX7_put_44 (lv_at hl 5 rfl) ?_
    refine lv_if_eq (tgt := 53) hx hb dX7_put_46 (by decide) (fun c20 => ?_) (fun c20 => ?_)
    · have hq := hq.1 c20
      refine lv_iconst (v := (0 : Int32)) hx hb dX7_put_53 (by decide) ?_
      exact B54 s1 (0 : Int32) x1 x2 x3 x4 x5 m_work m_used m_greaterNow m_countNow _ _ _ hq hP hD hS (lv_sub hl [0, 1, 2, 3, 4, 5] rfl)
    · have hq := hq.2 c20
      refine lv_iconst (v := (1 : Int32)) hx hb dX7_put_49 (by decide) ?_
      refine lv_goto (tgt := 54) hx hb dX7_put_50 (by decide) ?_
      exact B54 s1 (1 : Int32) x1 x2 x3 x4 x5 m_work m_used m_greaterNow m_countNow _ _ _ hq hP hD hS (lv_sub hl [0, 1, 2, 3, 4, 5] rfl)
  have B28 : ∀ (s0 : Int32) (x1 : Int32) (x2 : Int32) (x3 : Int32) (x4 : Int32) (m_work : Nat → Int32) (m_used : Int32) (m_greaterNow : Int32) (m_countNow : Int32) (H : Heap) (locs : List Loc) (ls : Array Slot), q7_put_28 m_n Q s0 x1 x2 x3 x4 m_work m_used m_greaterNow m_countNow → va_P (dC, dI) vwCl (wX7 cs ad m_n m_order m_shelf m_opens m_lists m_listed m_work m_counts m_older m_products m_part m_parts m_ways m_used m_greaterNow m_countNow) H → va_D A (wX7 cs ad m_n m_order m_shelf m_opens m_lists m_listed m_work m_counts m_older m_products m_part m_parts m_ways m_used m_greaterNow m_countNow) → va_S A s.heap H locs → lv_has ls 8 [(0, .ref (ad 0)), (1, .int x1), (2, .int x2), (3, .int x3), (4, .int x4)] → W p l e ({ frames := 0, cells := 0, slots := 0, locals := 0 } : Room) s m ([.ref (ad 0), .int a1, .int a2, .int a3] : List Value).toArray below meth c H locs 0 0 (MQ below (va_Qv (fun (u : (Nat → Int32) × Int32 × Int32 × Int32) => Q u.1 u.2.1 u.2.2.1 u.2.2.2) (Bw (dC, dI) (KA cs) A (fun u : (Nat → Int32) × Int32 × Int32 × Int32 => (wX7 cs ad m_n m_order m_shelf m_opens m_lists m_listed u.1 m_counts m_older m_products m_part m_parts m_ways u.2.1 u.2.2.1 u.2.2.2))) A) ([.ref (ad 0), .int a1, .int a2, .int a3] : List Value).toArray s 0 0 A) (F0 m 28 ls [.int s0]) := by
    intro s0 x1 x2 x3 x4 m_work m_used m_greaterNow m_countNow H locs ls hq hP hD hS hl
    unfold q7_put_28 at hq
    refine lv_istore (lv' := [(5, .int s0), (0, .ref (ad 0)), (1, .int x1), (2, .int x2), (3, .int x3), (4, .int x4)]) hx hb dX7_put_28 hl (by decide) rfl (fun ls hl => ?_)
    refine lv_aload_n hx hb dX7_put_30 rfl (lv_at hl 1 rfl) ?_
    refine lv_dup hx hb dX7_put_31 rfl ?_
    refine va_get (D := (dC, dI)) (ci := 7) (v := .int m_countNow) (C := RX7) (T := TX7) (N := 16) hx hb hts uwX7 hown hK hP 0 rfl rfl 15 (by decide) (hts _ fl_X7_137) (fun _ h9 => h9) rfl dX7_put_32 ?_
    refine lv_iload_n hx hb dX7_put_35 rfl (lv_at hl 2 rfl) ?_
    refine lv_iconst (v := (1 : Int32)) hx hb dX7_put_36 (by decide) ?_
    refine lv_icmp_ne (tgt := 44) hx hb dX7_put_37 (by decide) (fun c21 => ?_) (fun c21 => ?_)
    · have hq := hq.1 c21
      exact B44 m_countNow x1 x2 x3 x4 s0 m_work m_used m_greaterNow m_countNow _ _ _ hq hP hD hS (lv_sub hl [1, 2, 3, 4, 5, 0] rfl)
    · have hq := hq.2 c21
      refine lv_iload_n hx hb dX7_put_40 rfl (lv_at hl 3 rfl) ?_
      refine lv_if_eq (tgt := 49) hx hb dX7_put_41 (by decide) (fun c22 => ?_) (fun c22 => ?_)
      · have hq := hq.1 c22
        refine lv_iconst (v := (1 : Int32)) hx hb dX7_put_49 (by decide) ?_
        refine lv_goto (tgt := 54) hx hb dX7_put_50 (by decide) ?_
        exact B54 m_countNow (1 : Int32) x1 x2 x3 x4 s0 m_work m_used m_greaterNow m_countNow _ _ _ hq hP hD hS (lv_sub hl [1, 2, 3, 4, 5, 0] rfl)
      · have hq := hq.2 c22
        exact B44 m_countNow x1 x2 x3 x4 s0 m_work m_used m_greaterNow m_countNow _ _ _ hq hP hD hS (lv_sub hl [1, 2, 3, 4, 5, 0] rfl)
  unfold q7_put at hq
  refine lv_aload_n hx hb dX7_put_0 rfl (lv_at hl 0 rfl) ?_
  refine va_get (D := (dC, dI)) (ci := 7) (v := .int m_n) (C := RX7) (T := TX7) (N := 16) hx hb hts uwX7 hown hK hP 0 rfl rfl 0 (by decide) (hts _ fl_X7_7) (fun _ h9 => h9) rfl dX7_put_1 ?_
  refine lv_iload_n hx hb dX7_put_4 rfl (lv_at hl 2 rfl) ?_
  refine lv_isub hx hb dX7_put_5 ?_
  refine lv_istore (lv' := [(4, .int (m_n - a2)), (0, .ref (ad 0)), (1, .int a1), (2, .int a2), (3, .int a3)]) hx hb dX7_put_6 hl (by decide) rfl (fun ls hl => ?_)
  refine lv_iload_n hx hb dX7_put_8 rfl (lv_at hl 3 rfl) ?_
  refine lv_if_le (tgt := 27) hx hb dX7_put_9 (by decide) (fun c23 => ?_) (fun c23 => ?_)
  · have hq := hq.1 c23
    refine lv_iconst (v := (0 : Int32)) hx hb dX7_put_27 (by decide) ?_
    exact B28 (0 : Int32) a1 a2 a3 (m_n - a2) m_work m_used m_greaterNow m_countNow _ _ _ hq hP hD hS (lv_sub hl [1, 2, 3, 4, 0] rfl)
  · have hq := hq.2 c23
    refine lv_iload_n hx hb dX7_put_12 rfl (lv_at hl 4 rfl) ?_
    refine lv_iload hx hb dX7_put_13 (lv_at hl 0 rfl) ?_
    refine lv_aload_n hx hb dX7_put_15 rfl (lv_at hl 1 rfl) ?_
    refine va_get (D := (dC, dI)) (ci := 7) (v := .int m_greaterNow) (C := RX7) (T := TX7) (N := 16) hx hb hts uwX7 hown hK hP 0 rfl rfl 14 (by decide) (hts _ fl_X7_140) (fun _ h9 => h9) rfl dX7_put_16 ?_
    refine lv_isub hx hb dX7_put_19 ?_
    refine lv_icmp_lt (tgt := 27) hx hb dX7_put_20 (by decide) (fun c24 => ?_) (fun c24 => ?_)
    · have hq := hq.1 c24
      refine lv_iconst (v := (0 : Int32)) hx hb dX7_put_27 (by decide) ?_
      exact B28 (0 : Int32) a1 a2 a3 (m_n - a2) m_work m_used m_greaterNow m_countNow _ _ _ hq hP hD hS (lv_sub hl [1, 2, 3, 4, 0] rfl)
    · have hq := hq.2 c24
      refine lv_iconst (v := (1 : Int32)) hx hb dX7_put_23 (by decide) ?_
      refine lv_goto (tgt := 28) hx hb dX7_put_24 (by decide) ?_
      exact B28 (1 : Int32) a1 a2 a3 (m_n - a2) m_work m_used m_greaterNow m_countNow _ _ _ hq hP hD hS (lv_sub hl [1, 2, 3, 4, 0] rfl)
set_option maxHeartbeats 4000000 in
set_option maxRecDepth 100000 in
theorem c7_beginRow (l : Launch) (dC : Nat → ClassId) (dI : Nat → Nat → Nat) (cs : Nat → ClassId) (ad : Nat → Nat) (sz : Nat) (m_n : Int32) (m_order : Nat → Int32) (m_shelf : Nat → Int32) (m_opens : Int32) (m_lists : Nat → Int32) (m_listed : Nat → Int32) (m_work : Nat → Int32) (m_counts : Nat → Int64) (m_older : Nat → Int64) (m_products : Nat → Int64) (m_part : Nat → Int32) (m_parts : Int32) (m_ways : Nat → Int64) (m_used : Int32) (m_greaterNow : Int32) (m_countNow : Int32) (a1 : Int32) (a2 : Int32) {Q : (Nat → Int64) → (Nat → Int64) → Int32 → Int32 → Int32 → Prop} (hq : q7_beginRow m_n m_products m_ways m_used m_greaterNow m_countNow a1 a2 Q) : Met l yX7_beginRow (.code yX7_beginRow cX7_beginRow 3 none :: gt) ({ frames := 3, cells := 0, slots := 0, locals := 77 } : Room) (va_Pc [.ref (ad 0), .int a1, .int a2] (Pw (dC, dI) (KA cs) (wX7 cs ad m_n m_order m_shelf m_opens m_lists m_listed m_work m_counts m_older m_products m_part m_parts m_ways m_used m_greaterNow m_countNow) sz)) (va_Qv (fun (u : (Nat → Int64) × (Nat → Int64) × Int32 × Int32 × Int32) => Q u.1 u.2.1 u.2.2.1 u.2.2.2.1 u.2.2.2.2) (Bw (dC, dI) (KA cs) (va_A (wX7 cs ad m_n m_order m_shelf m_opens m_lists m_listed m_work m_counts m_older m_products m_part m_parts m_ways m_used m_greaterNow m_countNow) sz) (fun u : (Nat → Int64) × (Nat → Int64) × Int32 × Int32 × Int32 => (wX7 cs ad m_n m_order m_shelf m_opens m_lists m_listed m_work m_counts m_older u.1 m_part m_parts u.2.1 u.2.2.1 u.2.2.2.1 u.2.2.2.2))) (va_A (wX7 cs ad m_n m_order m_shelf m_opens m_lists m_listed m_work m_counts m_older m_products m_part m_parts m_ways m_used m_greaterNow m_countNow) sz)) 0 0 (va_A (wX7 cs ad m_n m_order m_shelf m_opens m_lists m_listed m_work m_counts m_older m_products m_part m_parts m_ways m_used m_greaterNow m_countNow) sz) := by
  refine Met.ofW (cc := cX7_beginRow) (maxL := 3) (ret := none) (by decide) rfl ?_
  intro p e s m args below meth c s₁ B hml hv
  obtain ⟨rfl, hsz, hP, hK, hD0, hN⟩ := hv
  have hx := B.exec
  have hb := B.bytes
  have hr := B.returns
  have hts0 := atoms_spec (ws := (.code yX7_beginRow cX7_beginRow 3 none :: gt)) B.pre
  have hts : ∀ w ∈ gt, w.before _ s = true := fun w h => hts0 w (List.mem_cons_of_mem _ h)
  have hown : s.vm.findClass RX7 = some m.cls := findClass_of_methodNamed B.named
  have hlocks := B.notSynchronized
  subst hsz
  have hD := hD0.self (sz := s.heap.size)
  generalize hAe : va_A (wX7 cs ad m_n m_order m_shelf m_opens m_lists m_listed m_work m_counts m_older m_products m_part m_parts m_ways m_used m_greaterNow m_countNow) s.heap.size = A at hD ⊢
  have hA : ∀ q : Nat, s.heap.size ≤ q → A q := fun q h => by rw [← hAe]; exact Or.inr h
  have hS : va_S A s.heap s.heap [] := va_S.rf
  have hl := lv_entry ([.ref (ad 0), .int a1, .int a2]) (n := 3) (Nat.le_of_ble_eq_true rfl)
  rw [lg_entry_eq]
  generalize (lg_sl ([.ref (ad 0), .int a1, .int a2]) ++ List.replicate (3 - (lg_sl ([.ref (ad 0), .int a1, .int a2])).length) Slot.unset).toArray = ls at hl ⊢
  have hl : lv_has ls 3 [(0, .ref (ad 0)), (1, .int a1), (2, .int a2)] := hl
  have B15 : ∀ (s1 : Int32) (x2 : Int32) (m_products : Nat → Int64) (m_ways : Nat → Int64) (m_used : Int32) (m_greaterNow : Int32) (m_countNow : Int32) (H : Heap) (locs : List Loc) (ls : Array Slot), q7_beginRow_15 m_n Q s1 x2 m_products m_ways m_used m_greaterNow m_countNow → va_P (dC, dI) vwCl (wX7 cs ad m_n m_order m_shelf m_opens m_lists m_listed m_work m_counts m_older m_products m_part m_parts m_ways m_used m_greaterNow m_countNow) H → va_D A (wX7 cs ad m_n m_order m_shelf m_opens m_lists m_listed m_work m_counts m_older m_products m_part m_parts m_ways m_used m_greaterNow m_countNow) → va_S A s.heap H locs → lv_has ls 3 [(0, .ref (ad 0)), (2, .int x2)] → W p l e ({ frames := 3, cells := 0, slots := 0, locals := 77 } : Room) s m ([.ref (ad 0), .int a1, .int a2] : List Value).toArray below meth c H locs 0 0 (MQ below (va_Qv (fun (u : (Nat → Int64) × (Nat → Int64) × Int32 × Int32 × Int32) => Q u.1 u.2.1 u.2.2.1 u.2.2.2.1 u.2.2.2.2) (Bw (dC, dI) (KA cs) A (fun u : (Nat → Int64) × (Nat → Int64) × Int32 × Int32 × Int32 => (wX7 cs ad m_n m_order m_shelf m_opens m_lists m_listed m_work m_counts m_older u.1 m_part m_parts u.2.1 u.2.2.1 u.2.2.2.1 u.2.2.2.2))) A) ([.ref (ad 0), .int a1, .int a2] : List Value).toArray s 0 0 A) (F0 m 15 ls [.int s1, .ref (ad 0)]) := by
    intro s1 x2 m_products m_ways m_used m_greaterNow m_countNow H locs ls hq hP hD hS hl
    unfold q7_beginRow_15 at hq
    refine swv (runV ⟨hx, hb, hml, hown, hts⟩ wf_X7_layWays ml_X7_146 (c7_layWays l dC dI cs ad _ m_n m_order m_shelf m_opens m_lists m_listed m_work m_counts m_older m_products m_part m_parts m_ways m_used m_greaterNow m_countNow s1 hq) ⟨⟨rfl, rfl⟩, by decide, by decide⟩ (preW hP hK hN hD) hK hP rfl 0 rfl rfl hl.1 rfl (Nat.le_of_ble_eq_true rfl) dX7_beginRow_15 ⟨(Nat.le_of_ble_eq_true rfl), (Nat.le_of_ble_eq_true rfl)⟩) hD hS hA (fun  m_ways_6 H locs hq hP hD hS => ?_)
    have hP : va_P (dC, dI) vwCl (wX7 cs ad m_n m_order m_shelf m_opens m_lists m_listed m_work m_counts m_older m_products m_part m_parts m_ways_6 m_used m_greaterNow m_countNow) H := hP
    have hD : va_D A (wX7 cs ad m_n m_order m_shelf m_opens m_lists m_listed m_work m_counts m_older m_products m_part m_parts m_ways_6 m_used m_greaterNow m_countNow) := hD
    refine lv_aload_n hx hb dX7_beginRow_18 rfl (lv_at hl 0 rfl) ?_
    refine lv_iconst (v := (0 : Int32)) hx hb dX7_beginRow_19 (by decide) ?_
    refine va_put (D := (dC, dI)) (ci := 7) (v := .int (0 : Int32)) (ty := .int) (C := RX7) (T := TX7) (N := 16) hx hb hts uwX7 tyX7 tyX7_ok nmX7 hown hK hP hD hS 0 rfl rfl 13 (by decide) (hts _ fl_X7_143) (fun _ h9 => h9) rfl (by decide +kernel) rfl rfl (Nat.le_of_ble_eq_true rfl) dX7_beginRow_20 (fun H locs hP hD hS => ?_)
    have hP : va_P (dC, dI) vwCl (wX7 cs ad m_n m_order m_shelf m_opens m_lists m_listed m_work m_counts m_older m_products m_part m_parts m_ways_6 (0 : Int32) m_greaterNow m_countNow) H := hP
    have hD : va_D A (wX7 cs ad m_n m_order m_shelf m_opens m_lists m_listed m_work m_counts m_older m_products m_part m_parts m_ways_6 (0 : Int32) m_greaterNow m_countNow) := hD
    refine lv_aload_n hx hb dX7_beginRow_23 rfl (lv_at hl 0 rfl) ?_
    refine lv_iconst (v := (0 : Int32)) hx hb dX7_beginRow_24 (by decide) ?_
    refine va_put (D := (dC, dI)) (ci := 7) (v := .int (0 : Int32)) (ty := .int) (C := RX7) (T := TX7) (N := 16) hx hb hts uwX7 tyX7 tyX7_ok nmX7 hown hK hP hD hS 0 rfl rfl 14 (by decide) (hts _ fl_X7_140) (fun _ h9 => h9) rfl (by decide +kernel) rfl rfl (Nat.le_of_ble_eq_true rfl) dX7_beginRow_25 (fun H locs hP hD hS => ?_)
    have hP : va_P (dC, dI) vwCl (wX7 cs ad m_n m_order m_shelf m_opens m_lists m_listed m_work m_counts m_older m_products m_part m_parts m_ways_6 (0 : Int32) (0 : Int32) m_countNow) H := hP
    have hD : va_D A (wX7 cs ad m_n m_order m_shelf m_opens m_lists m_listed m_work m_counts m_older m_products m_part m_parts m_ways_6 (0 : Int32) (0 : Int32) m_countNow) := hD
    refine lv_aload_n hx hb dX7_beginRow_28 rfl (lv_at hl 0 rfl) ?_
    refine lv_iload_n hx hb dX7_beginRow_29 rfl (lv_at hl 1 rfl) ?_
    refine va_put (D := (dC, dI)) (ci := 7) (v := .int x2) (ty := .int) (C := RX7) (T := TX7) (N := 16) hx hb hts uwX7 tyX7 tyX7_ok nmX7 hown hK hP hD hS 0 rfl rfl 15 (by decide) (hts _ fl_X7_137) (fun _ h9 => h9) rfl (by decide +kernel) rfl rfl (Nat.le_of_ble_eq_true rfl) dX7_beginRow_30 (fun H locs hP hD hS => ?_)
    have hP : va_P (dC, dI) vwCl (wX7 cs ad m_n m_order m_shelf m_opens m_lists m_listed m_work m_counts m_older m_products m_part m_parts m_ways_6 (0 : Int32) (0 : Int32) x2) H := hP
    have hD : va_D A (wX7 cs ad m_n m_order m_shelf m_opens m_lists m_listed m_work m_counts m_older m_products m_part m_parts m_ways_6 (0 : Int32) (0 : Int32) x2) := hD
    exact W.vret hx hb hr (fun t ht hW => ⟨⟨(m_products, m_ways_6, (0 : Int32), (0 : Int32), x2), rfl, hq, Bw_mk (by rw [ht]; exact hP) (va_K.moved hW.alike hK) hD⟩, hS.F ht⟩) hS.2.2 dX7_beginRow_33
  unfold q7_beginRow at hq
  refine lv_aload_n hx hb dX7_beginRow_0 rfl (lv_at hl 0 rfl) ?_
  refine swv (runV ⟨hx, hb, hml, hown, hts⟩ wf_X7_layProducts ml_X7_112 (c7_layProducts l dC dI cs ad _ m_n m_order m_shelf m_opens m_lists m_listed m_work m_counts m_older m_products m_part m_parts m_ways m_used m_greaterNow m_countNow  hq) ⟨⟨rfl, rfl⟩, by decide, by decide⟩ (preW hP hK hN hD) hK hP rfl 0 rfl rfl hl.1 rfl (Nat.le_of_ble_eq_true rfl) dX7_beginRow_1 ⟨(Nat.le_of_ble_eq_true rfl), (Nat.le_of_ble_eq_true rfl)⟩) hD hS hA (fun  m_products_8 H locs hq hP hD hS => ?_)
  have hP : va_P (dC, dI) vwCl (wX7 cs ad m_n m_order m_shelf m_opens m_lists m_listed m_work m_counts m_older m_products_8 m_part m_parts m_ways m_used m_greaterNow m_countNow) H := hP
  have hD : va_D A (wX7 cs ad m_n m_order m_shelf m_opens m_lists m_listed m_work m_counts m_older m_products_8 m_part m_parts m_ways m_used m_greaterNow m_countNow) := hD
  refine lv_aload_n hx hb dX7_beginRow_4 rfl (lv_at hl 0 rfl) ?_
  refine lv_iload_n hx hb dX7_beginRow_5 rfl (lv_at hl 1 rfl) ?_
  refine lv_iconst (v := (-1 : Int32)) hx hb dX7_beginRow_6 (by decide) ?_
  refine lv_icmp_ne (tgt := 14) hx hb dX7_beginRow_7 (by decide) (fun c10 => ?_) (fun c10 => ?_)
  · have hq := hq.1 c10
    refine lv_iload_n hx hb dX7_beginRow_14 rfl (lv_at hl 1 rfl) ?_
    exact B15 a1 a2 m_products_8 m_ways m_used m_greaterNow m_countNow _ _ _ hq hP hD hS (lv_sub hl [0, 2] rfl)
  · have hq := hq.2 c10
    refine lv_iconst (v := (1 : Int32)) hx hb dX7_beginRow_10 (by decide) ?_
    refine lv_goto (tgt := 15) hx hb dX7_beginRow_11 (by decide) ?_
    exact B15 (1 : Int32) a2 m_products_8 m_ways m_used m_greaterNow m_countNow _ _ _ hq hP hD hS (lv_sub hl [0, 2] rfl)
set_option maxHeartbeats 4000000 in
set_option maxRecDepth 100000 in
theorem c7_isKind (l : Launch) (dC : Nat → ClassId) (dI : Nat → Nat → Nat) (cs : Nat → ClassId) (a0 : Int32) {Q : Int32 → Prop} (hq : q7_isKind a0 Q) : Met l yX7_isKind (.code yX7_isKind cX7_isKind 1 (some .boolean) :: gt) ({ frames := 0, cells := 0, slots := 0, locals := 0 } : Room) (va_Pc [.int a0] (Pr (dC, dI) (KA cs) ([] : va_W))) (vp_Si Q) 0 0 (fun _ => False) := by
  refine Met.ofW (cc := cX7_isKind) (maxL := 1) (ret := (some .boolean)) (by decide) rfl ?_
  intro p e s m args below meth c s₁ B hml hv
  obtain ⟨rfl, hP, hK, hN⟩ := hv
  have hx := B.exec
  have hb := B.bytes
  have hr := B.returns
  have hts0 := atoms_spec (ws := (.code yX7_isKind cX7_isKind 1 (some .boolean) :: gt)) B.pre
  have hts : ∀ w ∈ gt, w.before _ s = true := fun w h => hts0 w (List.mem_cons_of_mem _ h)
  have hown : s.vm.findClass RX7 = some m.cls := findClass_of_methodNamed B.named
  have hlocks := B.notSynchronized
  have hl := lv_entry ([.int a0]) (n := 1) (Nat.le_of_ble_eq_true rfl)
  rw [lg_entry_eq]
  generalize (lg_sl ([.int a0]) ++ List.replicate (1 - (lg_sl ([.int a0])).length) Slot.unset).toArray = ls at hl ⊢
  have hl : lv_has ls 1 [(0, .int a0)] := hl
  unfold q7_isKind at hq
  refine lv_iload_n hx hb dX7_isKind_0 rfl (lv_at hl 0 rfl) ?_
  refine lv_iconst (v := (-1 : Int32)) hx hb dX7_isKind_1 (by decide) ?_
  refine lv_icmp_eq (tgt := 15) hx hb dX7_isKind_2 (by decide) (fun c4 => ?_) (fun c4 => ?_)
  · have hq := hq.1 c4
    refine lv_iconst (v := (1 : Int32)) hx hb dX7_isKind_15 (by decide) ?_
    refine lv_goto (tgt := 20) hx hb dX7_isKind_16 (by decide) ?_
    exact W.zret (ty := .boolean) (v := (1 : Int32)) hx hb hr rfl (fun t ht hW => ⟨(1 : Int32), rfl, hq, ht⟩) (fun q h => absurd h List.not_mem_nil) dX7_isKind_20
  · have hq := hq.2 c4
    refine lv_iload_n hx hb dX7_isKind_5 rfl (lv_at hl 0 rfl) ?_
    refine lv_iconst (v := (1 : Int32)) hx hb dX7_isKind_6 (by decide) ?_
    refine lv_icmp_eq (tgt := 15) hx hb dX7_isKind_7 (by decide) (fun c5 => ?_) (fun c5 => ?_)
    · have hq := hq.1 c5
      refine lv_iconst (v := (1 : Int32)) hx hb dX7_isKind_15 (by decide) ?_
      refine lv_goto (tgt := 20) hx hb dX7_isKind_16 (by decide) ?_
      exact W.zret (ty := .boolean) (v := (1 : Int32)) hx hb hr rfl (fun t ht hW => ⟨(1 : Int32), rfl, hq, ht⟩) (fun q h => absurd h List.not_mem_nil) dX7_isKind_20
    · have hq := hq.2 c5
      refine lv_iload_n hx hb dX7_isKind_10 rfl (lv_at hl 0 rfl) ?_
      refine lv_iconst (v := (2 : Int32)) hx hb dX7_isKind_11 (by decide) ?_
      refine lv_icmp_ne (tgt := 19) hx hb dX7_isKind_12 (by decide) (fun c6 => ?_) (fun c6 => ?_)
      · have hq := hq.1 c6
        refine lv_iconst (v := (0 : Int32)) hx hb dX7_isKind_19 (by decide) ?_
        exact W.zret (ty := .boolean) (v := (0 : Int32)) hx hb hr rfl (fun t ht hW => ⟨(0 : Int32), rfl, hq, ht⟩) (fun q h => absurd h List.not_mem_nil) dX7_isKind_20
      · have hq := hq.2 c6
        refine lv_iconst (v := (1 : Int32)) hx hb dX7_isKind_15 (by decide) ?_
        refine lv_goto (tgt := 20) hx hb dX7_isKind_16 (by decide) ?_
        exact W.zret (ty := .boolean) (v := (1 : Int32)) hx hb hr rfl (fun t ht hW => ⟨(1 : Int32), rfl, hq, ht⟩) (fun q h => absurd h List.not_mem_nil) dX7_isKind_20
set_option maxHeartbeats 4000000 in
set_option maxRecDepth 100000 in
theorem c7_row (l : Launch) (dC : Nat → ClassId) (dI : Nat → Nat → Nat) (cs : Nat → ClassId) (ad : Nat → Nat) (sz : Nat) (m_n : Int32) (m_order : Nat → Int32) (m_shelf : Nat → Int32) (m_opens : Int32) (m_lists : Nat → Int32) (m_listed : Nat → Int32) (m_work : Nat → Int32) (m_counts : Nat → Int64) (m_older : Nat → Int64) (m_products : Nat → Int64) (m_part : Nat → Int32) (m_parts : Int32) (m_ways : Nat → Int64) (m_used : Int32) (m_greaterNow : Int32) (m_countNow : Int32) (a1 : Int32) (a2 : Int32) (a3 : Int64) {Q : Int32 → (Nat → Int32) → (Nat → Int32) → (Nat → Int64) → (Nat → Int64) → Int32 → Int32 → Int32 → Prop} (hq : q7_row m_n m_order m_work m_products m_ways m_used m_greaterNow m_countNow a1 a2 a3 Q) : Met l yX7_row (.code yX7_row cX7_row 9 (some .int) :: gt) ({ frames := 4, cells := 0, slots := 0, locals := 99 } : Room) (va_Pc [.ref (ad 0), .int a1, .int a2, .long a3] (Pw (dC, dI) (KA cs) (wX7 cs ad m_n m_order m_shelf m_opens m_lists m_listed m_work m_counts m_older m_products m_part m_parts m_ways m_used m_greaterNow m_countNow) sz)) (va_Qi (fun (r : Int32) (u : (Nat → Int32) × (Nat → Int32) × (Nat → Int64) × (Nat → Int64) × Int32 × Int32 × Int32) => Q r u.1 u.2.1 u.2.2.1 u.2.2.2.1 u.2.2.2.2.1 u.2.2.2.2.2.1 u.2.2.2.2.2.2) (Bw (dC, dI) (KA cs) (va_A (wX7 cs ad m_n m_order m_shelf m_opens m_lists m_listed m_work m_counts m_older m_products m_part m_parts m_ways m_used m_greaterNow m_countNow) sz) (fun u : (Nat → Int32) × (Nat → Int32) × (Nat → Int64) × (Nat → Int64) × Int32 × Int32 × Int32 => (wX7 cs ad m_n u.1 m_shelf m_opens m_lists m_listed u.2.1 m_counts m_older u.2.2.1 m_part m_parts u.2.2.2.1 u.2.2.2.2.1 u.2.2.2.2.2.1 u.2.2.2.2.2.2))) (va_A (wX7 cs ad m_n m_order m_shelf m_opens m_lists m_listed m_work m_counts m_older m_products m_part m_parts m_ways m_used m_greaterNow m_countNow) sz)) 0 0 (va_A (wX7 cs ad m_n m_order m_shelf m_opens m_lists m_listed m_work m_counts m_older m_products m_part m_parts m_ways m_used m_greaterNow m_countNow) sz) := by
  refine Met.ofW (cc := cX7_row) (maxL := 9) (ret := (some .int)) (by decide) rfl ?_
  intro p e s m args below meth c s₁ B hml hv
  obtain ⟨rfl, hsz, hP, hK, hD0, hN⟩ := hv
  have hx := B.exec
  have hb := B.bytes
  have hr := B.returns
  have hts0 := atoms_spec (ws := (.code yX7_row cX7_row 9 (some .int) :: gt)) B.pre
  have hts : ∀ w ∈ gt, w.before _ s = true := fun w h => hts0 w (List.mem_cons_of_mem _ h)
  have hown : s.vm.findClass RX7 = some m.cls := findClass_of_methodNamed B.named
  have hlocks := B.notSynchronized
  subst hsz
  have hD := hD0.self (sz := s.heap.size)
  generalize hAe : va_A (wX7 cs ad m_n m_order m_shelf m_opens m_lists m_listed m_work m_counts m_older m_products m_part m_parts m_ways m_used m_greaterNow m_countNow) s.heap.size = A at hD ⊢
  have hA : ∀ q : Nat, s.heap.size ≤ q → A q := fun q h => by rw [← hAe]; exact Or.inr h
  have hS : va_S A s.heap s.heap [] := va_S.rf
  have hl := lv_entry ([.ref (ad 0), .int a1, .int a2, .long a3]) (n := 9) (Nat.le_of_ble_eq_true rfl)
  rw [lg_entry_eq]
  generalize (lg_sl ([.ref (ad 0), .int a1, .int a2, .long a3]) ++ List.replicate (9 - (lg_sl ([.ref (ad 0), .int a1, .int a2, .long a3])).length) Slot.unset).toArray = ls at hl ⊢
  have hl : lv_has ls 9 [(0, .ref (ad 0)), (1, .int a1), (2, .int a2), (3, .long a3)] := hl
  have B146 : ∀ (m_order : Nat → Int32) (m_work : Nat → Int32) (m_products : Nat → Int64) (m_ways : Nat → Int64) (m_used : Int32) (m_greaterNow : Int32) (m_countNow : Int32) (H : Heap) (locs : List Loc) (ls : Array Slot), q7_row_146 m_n Q m_order m_work m_products m_ways m_used m_greaterNow m_countNow → va_P (dC, dI) vwCl (wX7 cs ad m_n m_order m_shelf m_opens m_lists m_listed m_work m_counts m_older m_products m_part m_parts m_ways m_used m_greaterNow m_countNow) H → va_D A (wX7 cs ad m_n m_order m_shelf m_opens m_lists m_listed m_work m_counts m_older m_products m_part m_parts m_ways m_used m_greaterNow m_countNow) → va_S A s.heap H locs → lv_has ls 9 [(0, .ref (ad 0))] → W p l e ({ frames := 4, cells := 0, slots := 0, locals := 99 } : Room) s m ([.ref (ad 0), .int a1, .int a2, .long a3] : List Value).toArray below meth c H locs 0 0 (MQ below (va_Qi (fun (r : Int32) (u : (Nat → Int32) × (Nat → Int32) × (Nat → Int64) × (Nat → Int64) × Int32 × Int32 × Int32) => Q r u.1 u.2.1 u.2.2.1 u.2.2.2.1 u.2.2.2.2.1 u.2.2.2.2.2.1 u.2.2.2.2.2.2) (Bw (dC, dI) (KA cs) A (fun u : (Nat → Int32) × (Nat → Int32) × (Nat → Int64) × (Nat → Int64) × Int32 × Int32 × Int32 => (wX7 cs ad m_n u.1 m_shelf m_opens m_lists m_listed u.2.1 m_counts m_older u.2.2.1 m_part m_parts u.2.2.2.1 u.2.2.2.2.1 u.2.2.2.2.2.1 u.2.2.2.2.2.2))) A) ([.ref (ad 0), .int a1, .int a2, .long a3] : List Value).toArray s 0 0 A) (F0 m 146 ls []) := by
    intro m_order m_work m_products m_ways m_used m_greaterNow m_countNow H locs ls hq hP hD hS hl
    unfold q7_row_146 at hq
    refine lv_aload_n hx hb dX7_row_146 rfl (lv_at hl 0 rfl) ?_
    refine swv (runV ⟨hx, hb, hml, hown, hts⟩ wf_X7_become ml_X7_57 (c7_become l dC dI cs ad _ m_n m_order m_shelf m_opens m_lists m_listed m_work m_counts m_older m_products m_part m_parts m_ways m_used m_greaterNow m_countNow  hq) ⟨⟨rfl, rfl⟩, by decide, by decide⟩ (preW hP hK hN hD) hK hP rfl 0 rfl rfl hl.1 rfl (Nat.le_of_ble_eq_true rfl) dX7_row_147 ⟨(Nat.le_of_ble_eq_true rfl), (Nat.le_of_ble_eq_true rfl)⟩) hD hS hA (fun  m_order_27 H locs hq hP hD hS => ?_)
    have hP : va_P (dC, dI) vwCl (wX7 cs ad m_n m_order_27 m_shelf m_opens m_lists m_listed m_work m_counts m_older m_products m_part m_parts m_ways m_used m_greaterNow m_countNow) H := hP
    have hD : va_D A (wX7 cs ad m_n m_order_27 m_shelf m_opens m_lists m_listed m_work m_counts m_older m_products m_part m_parts m_ways m_used m_greaterNow m_countNow) := hD
    refine lv_iconst (v := (1 : Int32)) hx hb dX7_row_150 (by decide) ?_
    exact W.iret (v := (1 : Int32)) hx hb hr (fun t ht hW => ⟨⟨(1 : Int32), (m_order_27, m_work, m_products, m_ways, m_used, m_greaterNow, m_countNow), rfl, hq, Bw_mk (by rw [ht]; exact hP) (va_K.moved hW.alike hK) hD⟩, hS.F ht⟩) hS.2.2 dX7_row_151
  have B58 : ∀ (k58 : Nat) (x1 : Int32) (x5 : Int64) (x7 : Int32) (m_order : Nat → Int32) (m_work : Nat → Int32) (m_products : Nat → Int64) (m_ways : Nat → Int64) (m_used : Int32) (m_greaterNow : Int32) (m_countNow : Int32) (H : Heap) (locs : List Loc) (ls : Array Slot), q7_row_58 m_n Q k58 x1 x5 x7 m_order m_work m_products m_ways m_used m_greaterNow m_countNow → va_P (dC, dI) vwCl (wX7 cs ad m_n m_order m_shelf m_opens m_lists m_listed m_work m_counts m_older m_products m_part m_parts m_ways m_used m_greaterNow m_countNow) H → va_D A (wX7 cs ad m_n m_order m_shelf m_opens m_lists m_listed m_work m_counts m_older m_products m_part m_parts m_ways m_used m_greaterNow m_countNow) → va_S A s.heap H locs → lv_has ls 9 [(0, .ref (ad 0)), (1, .int x1), (5, .long x5), (7, .int x7)] → W p l e ({ frames := 4, cells := 0, slots := 0, locals := 99 } : Room) s m ([.ref (ad 0), .int a1, .int a2, .long a3] : List Value).toArray below meth c H locs 0 0 (MQ below (va_Qi (fun (r : Int32) (u : (Nat → Int32) × (Nat → Int32) × (Nat → Int64) × (Nat → Int64) × Int32 × Int32 × Int32) => Q r u.1 u.2.1 u.2.2.1 u.2.2.2.1 u.2.2.2.2.1 u.2.2.2.2.2.1 u.2.2.2.2.2.2) (Bw (dC, dI) (KA cs) A (fun u : (Nat → Int32) × (Nat → Int32) × (Nat → Int64) × (Nat → Int64) × Int32 × Int32 × Int32 => (wX7 cs ad m_n u.1 m_shelf m_opens m_lists m_listed u.2.1 m_counts m_older u.2.2.1 m_part m_parts u.2.2.2.1 u.2.2.2.2.1 u.2.2.2.2.2.1 u.2.2.2.2.2.2))) A) ([.ref (ad 0), .int a1, .int a2, .long a3] : List Value).toArray s 0 0 A) (F0 m 58 ls []) := by
    intro k58
    induction k58 with
    | zero => intro x1 x5 x7 m_order m_work m_products m_ways m_used m_greaterNow m_countNow H locs ls hq; exact False.elim hq
    | succ k58 ih58 =>
      intro x1 x5 x7 m_order m_work m_products m_ways m_used m_greaterNow m_countNow H locs ls hq hP hD hS hl
      have B117 : ∀ (x1 : Int32) (x5 : Int64) (x7 : Int32) (x8 : Int32) (m_order : Nat → Int32) (m_work : Nat → Int32) (m_products : Nat → Int64) (m_ways : Nat → Int64) (m_used : Int32) (m_greaterNow : Int32) (m_countNow : Int32) (H : Heap) (locs : List Loc) (ls : Array Slot), q7_row_117 m_n (fun v0 v1 v2 v3 v4 v5 v6 v7 v8 v9 => q7_row_58 m_n Q k58 v0 v1 v2 v3 v4 v5 v6 v7 v8 v9) Q x1 x5 x7 x8 m_order m_work m_products m_ways m_used m_greaterNow m_countNow → va_P (dC, dI) vwCl (wX7 cs ad m_n m_order m_shelf m_opens m_lists m_listed m_work m_counts m_older m_products m_part m_parts m_ways m_used m_greaterNow m_countNow) H → va_D A (wX7 cs ad m_n m_order m_shelf m_opens m_lists m_listed m_work m_counts m_older m_products m_part m_parts m_ways m_used m_greaterNow m_countNow) → va_S A s.heap H locs → lv_has ls 9 [(0, .ref (ad 0)), (1, .int x1), (5, .long x5), (7, .int x7), (8, .int x8)] → W p l e ({ frames := 4, cells := 0, slots := 0, locals := 99 } : Room) s m ([.ref (ad 0), .int a1, .int a2, .long a3] : List Value).toArray below meth c H locs 0 0 (MQ below (va_Qi (fun (r : Int32) (u : (Nat → Int32) × (Nat → Int32) × (Nat → Int64) × (Nat → Int64) × Int32 × Int32 × Int32) => Q r u.1 u.2.1 u.2.2.1 u.2.2.2.1 u.2.2.2.2.1 u.2.2.2.2.2.1 u.2.2.2.2.2.2) (Bw (dC, dI) (KA cs) A (fun u : (Nat → Int32) × (Nat → Int32) × (Nat → Int64) × (Nat → Int64) × Int32 × Int32 × Int32 => (wX7 cs ad m_n u.1 m_shelf m_opens m_lists m_listed u.2.1 m_counts m_older u.2.2.1 m_part m_parts u.2.2.2.1 u.2.2.2.2.1 u.2.2.2.2.2.1 u.2.2.2.2.2.2))) A) ([.ref (ad 0), .int a1, .int a2, .long a3] : List Value).toArray s 0 0 A) (F0 m 117 ls []) := by
        intro x1 x5 x7 x8 m_order m_work m_products m_ways m_used m_greaterNow m_countNow H locs ls hq hP hD hS hl
        unfold q7_row_117 at hq
        refine lv_iload hx hb dX7_row_117 (lv_at hl 4 rfl) ?_
        refine lv_aload_n hx hb dX7_row_119 rfl (lv_at hl 0 rfl) ?_
        refine va_get (D := (dC, dI)) (ci := 7) (v := .int m_n) (C := RX7) (T := TX7) (N := 16) hx hb hts uwX7 hown hK hP 0 rfl rfl 0 (by decide) (hts _ fl_X7_7) (fun _ h9 => h9) rfl dX7_row_120 ?_
        refine lv_iload hx hb dX7_row_123 (lv_at hl 3 rfl) ?_
        refine lv_isub hx hb dX7_row_125 ?_
        refine lv_icmp_ne (tgt := 131) hx hb dX7_row_126 (by decide) (fun c29 => ?_) (fun c29 => ?_)
        · have hq := hq.1 c29
          refine lv_aload_n hx hb dX7_row_131 rfl (lv_at hl 0 rfl) ?_
          refine lv_iload_n hx hb dX7_row_132 rfl (lv_at hl 1 rfl) ?_
          refine lv_iload hx hb dX7_row_133 (lv_at hl 3 rfl) ?_
          refine lv_iload hx hb dX7_row_135 (lv_at hl 4 rfl) ?_
          refine swv (runV ⟨hx, hb, hml, hown, hts⟩ wf_X7_put ml_X7_160 (c7_put l dC dI cs ad _ m_n m_order m_shelf m_opens m_lists m_listed m_work m_counts m_older m_products m_part m_parts m_ways m_used m_greaterNow m_countNow x1 x7 x8 hq) ⟨⟨rfl, rfl⟩, by decide, by decide⟩ (preW hP hK hN hD) hK hP rfl 0 rfl rfl hl.1 rfl (Nat.le_of_ble_eq_true rfl) dX7_row_137 ⟨(Nat.le_of_ble_eq_true rfl), (Nat.le_of_ble_eq_true rfl)⟩) hD hS hA (fun  u34 H locs hq hP hD hS => ?_)
          obtain ⟨m_work_30, m_used_31, m_greaterNow_32, m_countNow_33⟩ := u34
          try dsimp only at hq
          have hP : va_P (dC, dI) vwCl (wX7 cs ad m_n m_order m_shelf m_opens m_lists m_listed m_work_30 m_counts m_older m_products m_part m_parts m_ways m_used_31 m_greaterNow_32 m_countNow_33) H := hP
          have hD : va_D A (wX7 cs ad m_n m_order m_shelf m_opens m_lists m_listed m_work_30 m_counts m_older m_products m_part m_parts m_ways m_used_31 m_greaterNow_32 m_countNow_33) := hD
          refine lv_iinc (v := (x7 + (1 : Int32))) (lv' := [(7, .int (x7 + (1 : Int32))), (0, .ref (ad 0)), (1, .int x1), (5, .long x5), (8, .int x8)]) hx hb dX7_row_140 hl (k := 3) rfl (by rfl) (by decide) rfl (fun ls hl => ?_)
          refine lv_goto (tgt := 58) hx hb dX7_row_143 (by decide) ?_
          exact ih58 x1 x5 (x7 + (1 : Int32)) m_order m_work_30 m_products m_ways m_used_31 m_greaterNow_32 m_countNow_33 _ _ _ hq hP hD hS (lv_sub hl [1, 2, 3, 0] rfl)
        · have hq := hq.2 c29
          refine lv_iconst (v := (-1 : Int32)) hx hb dX7_row_129 (by decide) ?_
          exact W.iret (v := (-1 : Int32)) hx hb hr (fun t ht hW => ⟨⟨(-1 : Int32), (m_order, m_work, m_products, m_ways, m_used, m_greaterNow, m_countNow), rfl, hq, Bw_mk (by rw [ht]; exact hP) (va_K.moved hW.alike hK) hD⟩, hS.F ht⟩) hS.2.2 dX7_row_130
      have B70 : ∀ (k70 : Nat) (x1 : Int32) (x5 : Int64) (x7 : Int32) (x8 : Int32) (m_order : Nat → Int32) (m_work : Nat → Int32) (m_products : Nat → Int64) (m_ways : Nat → Int64) (m_used : Int32) (m_greaterNow : Int32) (m_countNow : Int32) (H : Heap) (locs : List Loc) (ls : Array Slot), q7_row_70 m_n (fun v0 v1 v2 v3 v4 v5 v6 v7 v8 v9 => q7_row_58 m_n Q k58 v0 v1 v2 v3 v4 v5 v6 v7 v8 v9) Q k70 x1 x5 x7 x8 m_order m_work m_products m_ways m_used m_greaterNow m_countNow → va_P (dC, dI) vwCl (wX7 cs ad m_n m_order m_shelf m_opens m_lists m_listed m_work m_counts m_older m_products m_part m_parts m_ways m_used m_greaterNow m_countNow) H → va_D A (wX7 cs ad m_n m_order m_shelf m_opens m_lists m_listed m_work m_counts m_older m_products m_part m_parts m_ways m_used m_greaterNow m_countNow) → va_S A s.heap H locs → lv_has ls 9 [(0, .ref (ad 0)), (1, .int x1), (5, .long x5), (7, .int x7), (8, .int x8)] → W p l e ({ frames := 4, cells := 0, slots := 0, locals := 99 } : Room) s m ([.ref (ad 0), .int a1, .int a2, .long a3] : List Value).toArray below meth c H locs 0 0 (MQ below (va_Qi (fun (r : Int32) (u : (Nat → Int32) × (Nat → Int32) × (Nat → Int64) × (Nat → Int64) × Int32 × Int32 × Int32) => Q r u.1 u.2.1 u.2.2.1 u.2.2.2.1 u.2.2.2.2.1 u.2.2.2.2.2.1 u.2.2.2.2.2.2) (Bw (dC, dI) (KA cs) A (fun u : (Nat → Int32) × (Nat → Int32) × (Nat → Int64) × (Nat → Int64) × Int32 × Int32 × Int32 => (wX7 cs ad m_n u.1 m_shelf m_opens m_lists m_listed u.2.1 m_counts m_older u.2.2.1 m_part m_parts u.2.2.2.1 u.2.2.2.2.1 u.2.2.2.2.2.1 u.2.2.2.2.2.2))) A) ([.ref (ad 0), .int a1, .int a2, .long a3] : List Value).toArray s 0 0 A) (F0 m 70 ls []) := by
        intro k70
        induction k70 with
        | zero => intro x1 x5 x7 x8 m_order m_work m_products m_ways m_used m_greaterNow m_countNow H locs ls hq; exact False.elim hq
        | succ k70 ih70 =>
          intro x1 x5 x7 x8 m_order m_work m_products m_ways m_used m_greaterNow m_countNow H locs ls hq hP hD hS hl
          unfold q7_row_70 at hq
          refine lv_iload hx hb dX7_row_70 (lv_at hl 4 rfl) ?_
          refine lv_aload_n hx hb dX7_row_72 rfl (lv_at hl 0 rfl) ?_
          refine va_get (D := (dC, dI)) (ci := 7) (v := .int m_n) (C := RX7) (T := TX7) (N := 16) hx hb hts uwX7 hown hK hP 0 rfl rfl 0 (by decide) (hts _ fl_X7_7) (fun _ h9 => h9) rfl dX7_row_73 ?_
          refine lv_iload hx hb dX7_row_76 (lv_at hl 3 rfl) ?_
          refine lv_isub hx hb dX7_row_78 ?_
          refine lv_icmp_ge (tgt := 117) hx hb dX7_row_79 (by decide) (fun c35 => ?_) (fun c35 => ?_)
          · have hq := hq.1 c35
            exact B117 x1 x5 x7 x8 m_order m_work m_products m_ways m_used m_greaterNow m_countNow _ _ _ hq hP hD hS (lv_sub hl [0, 1, 2, 3, 4] rfl)
          · have hq := hq.2 c35
            refine lv_lload hx hb dX7_row_82 (lv_at hl 2 rfl) ?_
            refine lv_aload_n hx hb dX7_row_84 rfl (lv_at hl 0 rfl) ?_
            refine lv_iload_n hx hb dX7_row_85 rfl (lv_at hl 1 rfl) ?_
            refine lv_iload hx hb dX7_row_86 (lv_at hl 3 rfl) ?_
            refine lv_iload hx hb dX7_row_88 (lv_at hl 4 rfl) ?_
            refine rol (runV ⟨hx, hb, hml, hown, hts⟩ wf_X7_waysAt ml_X7_156 (c7_waysAt l dC dI cs ad m_n m_order m_shelf m_opens m_lists m_listed m_work m_counts m_older m_products m_part m_parts m_ways m_used m_greaterNow m_countNow x1 x7 x8 hq) ⟨⟨rfl, rfl⟩, by decide, by decide⟩ (preR hP hK hN) hK hP rfl 0 rfl rfl hl.1 rfl (Nat.le_of_ble_eq_true rfl) dX7_row_90 ⟨(Nat.le_of_ble_eq_true rfl), (Nat.le_of_ble_eq_true rfl)⟩) (fun r36 hq => ?_)
            refine lc_lt (tgt := 117) hx hb dX7_row_93 dX7_row_94 (by decide) (fun c37 => ?_) (fun c37 => ?_)
            · have hq := hq.1 c37
              exact B117 x1 x5 x7 x8 m_order m_work m_products m_ways m_used m_greaterNow m_countNow _ _ _ hq hP hD hS (lv_sub hl [0, 1, 2, 3, 4] rfl)
            · have hq := hq.2 c37
              refine lv_lload hx hb dX7_row_97 (lv_at hl 2 rfl) ?_
              refine lv_aload_n hx hb dX7_row_99 rfl (lv_at hl 0 rfl) ?_
              refine lv_iload_n hx hb dX7_row_100 rfl (lv_at hl 1 rfl) ?_
              refine lv_iload hx hb dX7_row_101 (lv_at hl 3 rfl) ?_
              refine lv_iload hx hb dX7_row_103 (lv_at hl 4 rfl) ?_
              refine rol (runV ⟨hx, hb, hml, hown, hts⟩ wf_X7_waysAt ml_X7_156 (c7_waysAt l dC dI cs ad m_n m_order m_shelf m_opens m_lists m_listed m_work m_counts m_older m_products m_part m_parts m_ways m_used m_greaterNow m_countNow x1 x7 x8 hq) ⟨⟨rfl, rfl⟩, by decide, by decide⟩ (preR hP hK hN) hK hP rfl 0 rfl rfl hl.1 rfl (Nat.le_of_ble_eq_true rfl) dX7_row_105 ⟨(Nat.le_of_ble_eq_true rfl), (Nat.le_of_ble_eq_true rfl)⟩) (fun r38 hq => ?_)
              refine lv_lsub hx hb dX7_row_108 ?_
              refine lv_lstore (lv' := [(5, .long (x5 - r38)), (0, .ref (ad 0)), (1, .int x1), (7, .int x7), (8, .int x8)]) hx hb dX7_row_109 hl (by decide) rfl (fun ls hl => ?_)
              refine lv_iinc (v := (x8 + (1 : Int32))) (lv' := [(8, .int (x8 + (1 : Int32))), (5, .long (x5 - r38)), (0, .ref (ad 0)), (1, .int x1), (7, .int x7)]) hx hb dX7_row_111 hl (k := 4) rfl (by rfl) (by decide) rfl (fun ls hl => ?_)
              refine lv_goto (tgt := 70) hx hb dX7_row_114 (by decide) ?_
              exact ih70 x1 (x5 - r38) x7 (x8 + (1 : Int32)) m_order m_work m_products m_ways m_used m_greaterNow m_countNow _ _ _ hq hP hD hS (lv_sub hl [2, 3, 1, 4, 0] rfl)
      unfold q7_row_58 at hq
      refine lv_iload hx hb dX7_row_58 (lv_at hl 3 rfl) ?_
      refine lv_aload_n hx hb dX7_row_60 rfl (lv_at hl 0 rfl) ?_
      refine va_get (D := (dC, dI)) (ci := 7) (v := .int m_n) (C := RX7) (T := TX7) (N := 16) hx hb hts uwX7 hown hK hP 0 rfl rfl 0 (by decide) (hts _ fl_X7_7) (fun _ h9 => h9) rfl dX7_row_61 ?_
      refine lv_icmp_ge (tgt := 146) hx hb dX7_row_64 (by decide) (fun c39 => ?_) (fun c39 => ?_)
      · have hq := hq.1 c39
        exact B146 m_order m_work m_products m_ways m_used m_greaterNow m_countNow _ _ _ hq hP hD hS (lv_sub hl [0] rfl)
      · have hq := hq.2 c39
        refine lv_iconst (v := (0 : Int32)) hx hb dX7_row_67 (by decide) ?_
        refine lv_istore (lv' := [(8, .int (0 : Int32)), (0, .ref (ad 0)), (1, .int x1), (5, .long x5), (7, .int x7)]) hx hb dX7_row_68 hl (by decide) rfl (fun ls hl => ?_)
        obtain ⟨kf, hq⟩ := hq
        exact B70 kf x1 x5 x7 (0 : Int32) m_order m_work m_products m_ways m_used m_greaterNow m_countNow _ _ _ hq hP hD hS (lv_sub hl [1, 2, 3, 4, 0] rfl)
  have B49 : ∀ (s1 : Int32) (s2 : Int32) (x1 : Int32) (x3 : Int64) (m_order : Nat → Int32) (m_work : Nat → Int32) (m_products : Nat → Int64) (m_ways : Nat → Int64) (m_used : Int32) (m_greaterNow : Int32) (m_countNow : Int32) (H : Heap) (locs : List Loc) (ls : Array Slot), q7_row_49 m_n Q s1 s2 x1 x3 m_order m_work m_products m_ways m_used m_greaterNow m_countNow → va_P (dC, dI) vwCl (wX7 cs ad m_n m_order m_shelf m_opens m_lists m_listed m_work m_counts m_older m_products m_part m_parts m_ways m_used m_greaterNow m_countNow) H → va_D A (wX7 cs ad m_n m_order m_shelf m_opens m_lists m_listed m_work m_counts m_older m_products m_part m_parts m_ways m_used m_greaterNow m_countNow) → va_S A s.heap H locs → lv_has ls 9 [(0, .ref (ad 0)), (1, .int x1), (3, .long x3)] → W p l e ({ frames := 4, cells := 0, slots := 0, locals := 99 } : Room) s m ([.ref (ad 0), .int a1, .int a2, .long a3] : List Value).toArray below meth c H locs 0 0 (MQ below (va_Qi (fun (r : Int32) (u : (Nat → Int32) × (Nat → Int32) × (Nat → Int64) × (Nat → Int64) × Int32 × Int32 × Int32) => Q r u.1 u.2.1 u.2.2.1 u.2.2.2.1 u.2.2.2.2.1 u.2.2.2.2.2.1 u.2.2.2.2.2.2) (Bw (dC, dI) (KA cs) A (fun u : (Nat → Int32) × (Nat → Int32) × (Nat → Int64) × (Nat → Int64) × Int32 × Int32 × Int32 => (wX7 cs ad m_n u.1 m_shelf m_opens m_lists m_listed u.2.1 m_counts m_older u.2.2.1 m_part m_parts u.2.2.2.1 u.2.2.2.2.1 u.2.2.2.2.2.1 u.2.2.2.2.2.2))) A) ([.ref (ad 0), .int a1, .int a2, .long a3] : List Value).toArray s 0 0 A) (F0 m 49 ls [.int s2, .int s1, .ref (ad 0)]) := by
    intro s1 s2 x1 x3 m_order m_work m_products m_ways m_used m_greaterNow m_countNow H locs ls hq hP hD hS hl
    unfold q7_row_49 at hq
    refine swv (runV ⟨hx, hb, hml, hown, hts⟩ wf_X7_beginRow ml_X7_152 (c7_beginRow l dC dI cs ad _ m_n m_order m_shelf m_opens m_lists m_listed m_work m_counts m_older m_products m_part m_parts m_ways m_used m_greaterNow m_countNow s1 s2 hq) ⟨⟨rfl, rfl⟩, by decide, by decide⟩ (preW hP hK hN hD) hK hP rfl 0 rfl rfl hl.1 rfl (Nat.le_of_ble_eq_true rfl) dX7_row_49 ⟨(Nat.le_of_ble_eq_true rfl), (Nat.le_of_ble_eq_true rfl)⟩) hD hS hA (fun  u45 H locs hq hP hD hS => ?_)
    obtain ⟨m_products_40, m_ways_41, m_used_42, m_greaterNow_43, m_countNow_44⟩ := u45
    try dsimp only at hq
    have hP : va_P (dC, dI) vwCl (wX7 cs ad m_n m_order m_shelf m_opens m_lists m_listed m_work m_counts m_older m_products_40 m_part m_parts m_ways_41 m_used_42 m_greaterNow_43 m_countNow_44) H := hP
    have hD : va_D A (wX7 cs ad m_n m_order m_shelf m_opens m_lists m_listed m_work m_counts m_older m_products_40 m_part m_parts m_ways_41 m_used_42 m_greaterNow_43 m_countNow_44) := hD
    refine lv_lload_n hx hb dX7_row_52 rfl (lv_at hl 2 rfl) ?_
    refine lv_lstore (lv' := [(5, .long x3), (0, .ref (ad 0)), (1, .int x1), (3, .long x3)]) hx hb dX7_row_53 hl (by decide) rfl (fun ls hl => ?_)
    refine lv_iconst (v := (0 : Int32)) hx hb dX7_row_55 (by decide) ?_
    refine lv_istore (lv' := [(7, .int (0 : Int32)), (5, .long x3), (0, .ref (ad 0)), (1, .int x1), (3, .long x3)]) hx hb dX7_row_56 hl (by decide) rfl (fun ls hl => ?_)
    obtain ⟨kf, hq⟩ := hq
    exact B58 kf x1 x3 (0 : Int32) m_order m_work m_products_40 m_ways_41 m_used_42 m_greaterNow_43 m_countNow_44 _ _ _ hq hP hD hS (lv_sub hl [2, 3, 1, 0] rfl)
  have B37 : ∀ (x1 : Int32) (x2 : Int32) (x3 : Int64) (m_order : Nat → Int32) (m_work : Nat → Int32) (m_products : Nat → Int64) (m_ways : Nat → Int64) (m_used : Int32) (m_greaterNow : Int32) (m_countNow : Int32) (H : Heap) (locs : List Loc) (ls : Array Slot), q7_row_37 m_n Q x1 x2 x3 m_order m_work m_products m_ways m_used m_greaterNow m_countNow → va_P (dC, dI) vwCl (wX7 cs ad m_n m_order m_shelf m_opens m_lists m_listed m_work m_counts m_older m_products m_part m_parts m_ways m_used m_greaterNow m_countNow) H → va_D A (wX7 cs ad m_n m_order m_shelf m_opens m_lists m_listed m_work m_counts m_older m_products m_part m_parts m_ways m_used m_greaterNow m_countNow) → va_S A s.heap H locs → lv_has ls 9 [(0, .ref (ad 0)), (1, .int x1), (2, .int x2), (3, .long x3)] → W p l e ({ frames := 4, cells := 0, slots := 0, locals := 99 } : Room) s m ([.ref (ad 0), .int a1, .int a2, .long a3] : List Value).toArray below meth c H locs 0 0 (MQ below (va_Qi (fun (r : Int32) (u : (Nat → Int32) × (Nat → Int32) × (Nat → Int64) × (Nat → Int64) × Int32 × Int32 × Int32) => Q r u.1 u.2.1 u.2.2.1 u.2.2.2.1 u.2.2.2.2.1 u.2.2.2.2.2.1 u.2.2.2.2.2.2) (Bw (dC, dI) (KA cs) A (fun u : (Nat → Int32) × (Nat → Int32) × (Nat → Int64) × (Nat → Int64) × Int32 × Int32 × Int32 => (wX7 cs ad m_n u.1 m_shelf m_opens m_lists m_listed u.2.1 m_counts m_older u.2.2.1 m_part m_parts u.2.2.2.1 u.2.2.2.2.1 u.2.2.2.2.2.1 u.2.2.2.2.2.2))) A) ([.ref (ad 0), .int a1, .int a2, .long a3] : List Value).toArray s 0 0 A) (F0 m 37 ls []) := by
    intro x1 x2 x3 m_order m_work m_products m_ways m_used m_greaterNow m_countNow H locs ls hq hP hD hS hl
    unfold q7_row_37 at hq
    refine lv_aload_n hx hb dX7_row_37 rfl (lv_at hl 0 rfl) ?_
    refine lv_iload_n hx hb dX7_row_38 rfl (lv_at hl 1 rfl) ?_
    refine lv_iload_n hx hb dX7_row_39 rfl (lv_at hl 1 rfl) ?_
    refine lv_iconst (v := (-1 : Int32)) hx hb dX7_row_40 (by decide) ?_
    refine lv_icmp_ne (tgt := 48) hx hb dX7_row_41 (by decide) (fun c46 => ?_) (fun c46 => ?_)
    · have hq := hq.1 c46
      refine lv_iload_n hx hb dX7_row_48 rfl (lv_at hl 2 rfl) ?_
      exact B49 x1 x2 x1 x3 m_order m_work m_products m_ways m_used m_greaterNow m_countNow _ _ _ hq hP hD hS (lv_sub hl [0, 1, 3] rfl)
    · have hq := hq.2 c46
      refine lv_iconst (v := (0 : Int32)) hx hb dX7_row_44 (by decide) ?_
      refine lv_goto (tgt := 49) hx hb dX7_row_45 (by decide) ?_
      exact B49 x1 (0 : Int32) x1 x3 m_order m_work m_products m_ways m_used m_greaterNow m_countNow _ _ _ hq hP hD hS (lv_sub hl [0, 1, 3] rfl)
  unfold q7_row at hq
  refine lv_iload_n hx hb dX7_row_0 rfl (lv_at hl 1 rfl) ?_
  refine roi (runS ⟨hx, hb, hml, hown, hts⟩ ws_X7_isKind ml_X7_149 (c7_isKind l dC dI cs   a1 hq) ⟨⟨rfl, rfl⟩, by decide, by decide⟩ (preR va_P_nil hK hN) hN rfl hl.1 rfl (Nat.le_of_ble_eq_true rfl) dX7_row_1 ⟨(Nat.le_of_ble_eq_true rfl), (Nat.le_of_ble_eq_true rfl)⟩) (fun r47 hq => ?_)
  refine lv_if_eq (tgt := 13) hx hb dX7_row_4 (by decide) (fun c48 => ?_) (fun c48 => ?_)
  · have hq := hq.1 c48
    refine lv_bipush (v := (-2 : Int32)) hx hb dX7_row_13 (by decide) ?_
    exact W.iret (v := (-2 : Int32)) hx hb hr (fun t ht hW => ⟨⟨(-2 : Int32), (m_order, m_work, m_products, m_ways, m_used, m_greaterNow, m_countNow), rfl, hq, Bw_mk (by rw [ht]; exact hP) (va_K.moved hW.alike hK) hD⟩, hS.F ht⟩) hS.2.2 dX7_row_15
  · have hq := hq.2 c48
    refine lv_lload_n hx hb dX7_row_7 rfl (lv_at hl 3 rfl) ?_
    refine lv_lconst (v := (0 : Int64)) hx hb dX7_row_8 (by decide) ?_
    refine lc_ge (tgt := 16) hx hb dX7_row_9 dX7_row_10 (by decide) (fun c49 => ?_) (fun c49 => ?_)
    · have hq := hq.1 c49
      refine lv_iload_n hx hb dX7_row_16 rfl (lv_at hl 1 rfl) ?_
      refine lv_iconst (v := (-1 : Int32)) hx hb dX7_row_17 (by decide) ?_
      refine lv_icmp_eq (tgt := 37) hx hb dX7_row_18 (by decide) (fun c50 => ?_) (fun c50 => ?_)
      · have hq := hq.1 c50
        exact B37 a1 a2 a3 m_order m_work m_products m_ways m_used m_greaterNow m_countNow _ _ _ hq hP hD hS (lv_sub hl [0, 1, 2, 3] rfl)
      · have hq := hq.2 c50
        refine lv_iload_n hx hb dX7_row_21 rfl (lv_at hl 2 rfl) ?_
        refine lv_i2l (v := a2.toInt64) hx hb dX7_row_22 rfl ?_
        refine lv_lconst (v := (0 : Int64)) hx hb dX7_row_23 (by decide) ?_
        refine lv_aload_n hx hb dX7_row_24 rfl (lv_at hl 0 rfl) ?_
        refine va_get (D := (dC, dI)) (ci := 7) (v := .int m_n) (C := RX7) (T := TX7) (N := 16) hx hb hts uwX7 hown hK hP 0 rfl rfl 0 (by decide) (hts _ fl_X7_7) (fun _ h9 => h9) rfl dX7_row_25 ?_
        refine lv_i2l (v := m_n.toInt64) hx hb dX7_row_28 rfl ?_
        refine roi (runS ⟨hx, hb, hml, hown, hts⟩ ws_X7_in ml_X7_51 (c7_in l dC dI cs   a2.toInt64 (0 : Int64) m_n.toInt64 hq) ⟨⟨rfl, rfl⟩, by decide, by decide⟩ (preR va_P_nil hK hN) hN rfl hl.1 rfl (Nat.le_of_ble_eq_true rfl) dX7_row_29 ⟨(Nat.le_of_ble_eq_true rfl), (Nat.le_of_ble_eq_true rfl)⟩) (fun r51 hq => ?_)
        refine lv_if_ne (tgt := 37) hx hb dX7_row_32 (by decide) (fun c52 => ?_) (fun c52 => ?_)
        · have hq := hq.1 c52
          exact B37 a1 a2 a3 m_order m_work m_products m_ways m_used m_greaterNow m_countNow _ _ _ hq hP hD hS (lv_sub hl [0, 1, 2, 3] rfl)
        · have hq := hq.2 c52
          refine lv_iconst (v := (-1 : Int32)) hx hb dX7_row_35 (by decide) ?_
          exact W.iret (v := (-1 : Int32)) hx hb hr (fun t ht hW => ⟨⟨(-1 : Int32), (m_order, m_work, m_products, m_ways, m_used, m_greaterNow, m_countNow), rfl, hq, Bw_mk (by rw [ht]; exact hP) (va_K.moved hW.alike hK) hD⟩, hS.F ht⟩) hS.2.2 dX7_row_36
    · have hq := hq.2 c49
      refine lv_bipush (v := (-2 : Int32)) hx hb dX7_row_13 (by decide) ?_
      exact W.iret (v := (-2 : Int32)) hx hb hr (fun t ht hW => ⟨⟨(-2 : Int32), (m_order, m_work, m_products, m_ways, m_used, m_greaterNow, m_countNow), rfl, hq, Bw_mk (by rw [ht]; exact hP) (va_K.moved hW.alike hK) hD⟩, hS.F ht⟩) hS.2.2 dX7_row_15
set_option maxHeartbeats 4000000 in
set_option maxRecDepth 100000 in
theorem c7_place (l : Launch) (dC : Nat → ClassId) (dI : Nat → Nat → Nat) (cs : Nat → ClassId) (ad : Nat → Nat) (sz : Nat) (m_n : Int32) (m_order : Nat → Int32) (m_shelf : Nat → Int32) (m_opens : Int32) (m_lists : Nat → Int32) (m_listed : Nat → Int32) (m_work : Nat → Int32) (m_counts : Nat → Int64) (m_older : Nat → Int64) (m_products : Nat → Int64) (m_part : Nat → Int32) (m_parts : Int32) (m_ways : Nat → Int64) (m_used : Int32) (m_greaterNow : Int32) (m_countNow : Int32) (a1 : Int32) {Q : Int64 → (Nat → Int32) → (Nat → Int64) → (Nat → Int64) → Int32 → Int32 → Int32 → Prop} (hq : q7_place m_n m_order m_work m_products m_ways m_used m_greaterNow m_countNow a1 Q) : Met l yX7_place (.code yX7_place cX7_place 7 (some .long) :: gt) ({ frames := 4, cells := 0, slots := 0, locals := 99 } : Room) (va_Pc [.ref (ad 0), .int a1] (Pw (dC, dI) (KA cs) (wX7 cs ad m_n m_order m_shelf m_opens m_lists m_listed m_work m_counts m_older m_products m_part m_parts m_ways m_used m_greaterNow m_countNow) sz)) (va_Ql (fun (r : Int64) (u : (Nat → Int32) × (Nat → Int64) × (Nat → Int64) × Int32 × Int32 × Int32) => Q r u.1 u.2.1 u.2.2.1 u.2.2.2.1 u.2.2.2.2.1 u.2.2.2.2.2) (Bw (dC, dI) (KA cs) (va_A (wX7 cs ad m_n m_order m_shelf m_opens m_lists m_listed m_work m_counts m_older m_products m_part m_parts m_ways m_used m_greaterNow m_countNow) sz) (fun u : (Nat → Int32) × (Nat → Int64) × (Nat → Int64) × Int32 × Int32 × Int32 => (wX7 cs ad m_n m_order m_shelf m_opens m_lists m_listed u.1 m_counts m_older u.2.1 m_part m_parts u.2.2.1 u.2.2.2.1 u.2.2.2.2.1 u.2.2.2.2.2))) (va_A (wX7 cs ad m_n m_order m_shelf m_opens m_lists m_listed m_work m_counts m_older m_products m_part m_parts m_ways m_used m_greaterNow m_countNow) sz)) 0 0 (va_A (wX7 cs ad m_n m_order m_shelf m_opens m_lists m_listed m_work m_counts m_older m_products m_part m_parts m_ways m_used m_greaterNow m_countNow) sz) := by
  refine Met.ofW (cc := cX7_place) (maxL := 7) (ret := (some .long)) (by decide) rfl ?_
  intro p e s m args below meth c s₁ B hml hv
  obtain ⟨rfl, hsz, hP, hK, hD0, hN⟩ := hv
  have hx := B.exec
  have hb := B.bytes
  have hr := B.returns
  have hts0 := atoms_spec (ws := (.code yX7_place cX7_place 7 (some .long) :: gt)) B.pre
  have hts : ∀ w ∈ gt, w.before _ s = true := fun w h => hts0 w (List.mem_cons_of_mem _ h)
  have hown : s.vm.findClass RX7 = some m.cls := findClass_of_methodNamed B.named
  have hlocks := B.notSynchronized
  subst hsz
  have hD := hD0.self (sz := s.heap.size)
  generalize hAe : va_A (wX7 cs ad m_n m_order m_shelf m_opens m_lists m_listed m_work m_counts m_older m_products m_part m_parts m_ways m_used m_greaterNow m_countNow) s.heap.size = A at hD ⊢
  have hA : ∀ q : Nat, s.heap.size ≤ q → A q := fun q h => by rw [← hAe]; exact Or.inr h
  have hS : va_S A s.heap s.heap [] := va_S.rf
  have hl := lv_entry ([.ref (ad 0), .int a1]) (n := 7) (Nat.le_of_ble_eq_true rfl)
  rw [lg_entry_eq]
  generalize (lg_sl ([.ref (ad 0), .int a1]) ++ List.replicate (7 - (lg_sl ([.ref (ad 0), .int a1])).length) Slot.unset).toArray = ls at hl ⊢
  have hl : lv_has ls 7 [(0, .ref (ad 0)), (1, .int a1)] := hl
  have B35 : ∀ (k35 : Nat) (x1 : Int32) (x2 : Int64) (x4 : Int32) (m_work : Nat → Int32) (m_products : Nat → Int64) (m_ways : Nat → Int64) (m_used : Int32) (m_greaterNow : Int32) (m_countNow : Int32) (H : Heap) (locs : List Loc) (ls : Array Slot), q7_place_35 m_n m_order Q k35 x1 x2 x4 m_work m_products m_ways m_used m_greaterNow m_countNow → va_P (dC, dI) vwCl (wX7 cs ad m_n m_order m_shelf m_opens m_lists m_listed m_work m_counts m_older m_products m_part m_parts m_ways m_used m_greaterNow m_countNow) H → va_D A (wX7 cs ad m_n m_order m_shelf m_opens m_lists m_listed m_work m_counts m_older m_products m_part m_parts m_ways m_used m_greaterNow m_countNow) → va_S A s.heap H locs → lv_has ls 7 [(0, .ref (ad 0)), (1, .int x1), (2, .long x2), (4, .int x4)] → W p l e ({ frames := 4, cells := 0, slots := 0, locals := 99 } : Room) s m ([.ref (ad 0), .int a1] : List Value).toArray below meth c H locs 0 0 (MQ below (va_Ql (fun (r : Int64) (u : (Nat → Int32) × (Nat → Int64) × (Nat → Int64) × Int32 × Int32 × Int32) => Q r u.1 u.2.1 u.2.2.1 u.2.2.2.1 u.2.2.2.2.1 u.2.2.2.2.2) (Bw (dC, dI) (KA cs) A (fun u : (Nat → Int32) × (Nat → Int64) × (Nat → Int64) × Int32 × Int32 × Int32 => (wX7 cs ad m_n m_order m_shelf m_opens m_lists m_listed u.1 m_counts m_older u.2.1 m_part m_parts u.2.2.1 u.2.2.2.1 u.2.2.2.2.1 u.2.2.2.2.2))) A) ([.ref (ad 0), .int a1] : List Value).toArray s 0 0 A) (F0 m 35 ls []) := by
    intro k35
    induction k35 with
    | zero => intro x1 x2 x4 m_work m_products m_ways m_used m_greaterNow m_countNow H locs ls hq; exact False.elim hq
    | succ k35 ih35 =>
      intro x1 x2 x4 m_work m_products m_ways m_used m_greaterNow m_countNow H locs ls hq hP hD hS hl
      have B118 : ∀ (x1 : Int32) (x2 : Int64) (x4 : Int32) (x5 : Int32) (m_work : Nat → Int32) (m_products : Nat → Int64) (m_ways : Nat → Int64) (m_used : Int32) (m_greaterNow : Int32) (m_countNow : Int32) (H : Heap) (locs : List Loc) (ls : Array Slot), q7_place_118 m_n m_order (fun v0 v1 v2 v3 v4 v5 v6 v7 v8 => q7_place_35 m_n m_order Q k35 v0 v1 v2 v3 v4 v5 v6 v7 v8) Q x1 x2 x4 x5 m_work m_products m_ways m_used m_greaterNow m_countNow → va_P (dC, dI) vwCl (wX7 cs ad m_n m_order m_shelf m_opens m_lists m_listed m_work m_counts m_older m_products m_part m_parts m_ways m_used m_greaterNow m_countNow) H → va_D A (wX7 cs ad m_n m_order m_shelf m_opens m_lists m_listed m_work m_counts m_older m_products m_part m_parts m_ways m_used m_greaterNow m_countNow) → va_S A s.heap H locs → lv_has ls 7 [(0, .ref (ad 0)), (1, .int x1), (2, .long x2), (4, .int x4), (5, .int x5)] → W p l e ({ frames := 4, cells := 0, slots := 0, locals := 99 } : Room) s m ([.ref (ad 0), .int a1] : List Value).toArray below meth c H locs 0 0 (MQ below (va_Ql (fun (r : Int64) (u : (Nat → Int32) × (Nat → Int64) × (Nat → Int64) × Int32 × Int32 × Int32) => Q r u.1 u.2.1 u.2.2.1 u.2.2.2.1 u.2.2.2.2.1 u.2.2.2.2.2) (Bw (dC, dI) (KA cs) A (fun u : (Nat → Int32) × (Nat → Int64) × (Nat → Int64) × Int32 × Int32 × Int32 => (wX7 cs ad m_n m_order m_shelf m_opens m_lists m_listed u.1 m_counts m_older u.2.1 m_part m_parts u.2.2.1 u.2.2.2.1 u.2.2.2.2.1 u.2.2.2.2.2))) A) ([.ref (ad 0), .int a1] : List Value).toArray s 0 0 A) (F0 m 118 ls []) := by
        intro x1 x2 x4 x5 m_work m_products m_ways m_used m_greaterNow m_countNow H locs ls hq hP hD hS hl
        unfold q7_place_118 at hq
        refine lv_aload_n hx hb dX7_place_118 rfl (lv_at hl 0 rfl) ?_
        refine lv_iload_n hx hb dX7_place_119 rfl (lv_at hl 1 rfl) ?_
        refine lv_iload hx hb dX7_place_120 (lv_at hl 3 rfl) ?_
        refine lv_iload hx hb dX7_place_122 (lv_at hl 4 rfl) ?_
        refine swv (runV ⟨hx, hb, hml, hown, hts⟩ wf_X7_put ml_X7_160 (c7_put l dC dI cs ad _ m_n m_order m_shelf m_opens m_lists m_listed m_work m_counts m_older m_products m_part m_parts m_ways m_used m_greaterNow m_countNow x1 x4 x5 hq) ⟨⟨rfl, rfl⟩, by decide, by decide⟩ (preW hP hK hN hD) hK hP rfl 0 rfl rfl hl.1 rfl (Nat.le_of_ble_eq_true rfl) dX7_place_124 ⟨(Nat.le_of_ble_eq_true rfl), (Nat.le_of_ble_eq_true rfl)⟩) hD hS hA (fun  u28 H locs hq hP hD hS => ?_)
        obtain ⟨m_work_24, m_used_25, m_greaterNow_26, m_countNow_27⟩ := u28
        try dsimp only at hq
        have hP : va_P (dC, dI) vwCl (wX7 cs ad m_n m_order m_shelf m_opens m_lists m_listed m_work_24 m_counts m_older m_products m_part m_parts m_ways m_used_25 m_greaterNow_26 m_countNow_27) H := hP
        have hD : va_D A (wX7 cs ad m_n m_order m_shelf m_opens m_lists m_listed m_work_24 m_counts m_older m_products m_part m_parts m_ways m_used_25 m_greaterNow_26 m_countNow_27) := hD
        refine lv_iinc (v := (x4 + (1 : Int32))) (lv' := [(4, .int (x4 + (1 : Int32))), (0, .ref (ad 0)), (1, .int x1), (2, .long x2), (5, .int x5)]) hx hb dX7_place_127 hl (k := 3) rfl (by rfl) (by decide) rfl (fun ls hl => ?_)
        refine lv_goto (tgt := 35) hx hb dX7_place_130 (by decide) ?_
        exact ih35 x1 x2 (x4 + (1 : Int32)) m_work_24 m_products m_ways m_used_25 m_greaterNow_26 m_countNow_27 _ _ _ hq hP hD hS (lv_sub hl [1, 2, 3, 0] rfl)
      have B93 : ∀ (k93 : Nat) (x1 : Int32) (x2 : Int64) (x4 : Int32) (x5 : Int32) (x6 : Int32) (m_work : Nat → Int32) (m_products : Nat → Int64) (m_ways : Nat → Int64) (m_used : Int32) (m_greaterNow : Int32) (m_countNow : Int32) (H : Heap) (locs : List Loc) (ls : Array Slot), q7_place_93 m_n m_order (fun v0 v1 v2 v3 v4 v5 v6 v7 v8 => q7_place_35 m_n m_order Q k35 v0 v1 v2 v3 v4 v5 v6 v7 v8) Q k93 x1 x2 x4 x5 x6 m_work m_products m_ways m_used m_greaterNow m_countNow → va_P (dC, dI) vwCl (wX7 cs ad m_n m_order m_shelf m_opens m_lists m_listed m_work m_counts m_older m_products m_part m_parts m_ways m_used m_greaterNow m_countNow) H → va_D A (wX7 cs ad m_n m_order m_shelf m_opens m_lists m_listed m_work m_counts m_older m_products m_part m_parts m_ways m_used m_greaterNow m_countNow) → va_S A s.heap H locs → lv_has ls 7 [(0, .ref (ad 0)), (1, .int x1), (2, .long x2), (4, .int x4), (5, .int x5), (6, .int x6)] → W p l e ({ frames := 4, cells := 0, slots := 0, locals := 99 } : Room) s m ([.ref (ad 0), .int a1] : List Value).toArray below meth c H locs 0 0 (MQ below (va_Ql (fun (r : Int64) (u : (Nat → Int32) × (Nat → Int64) × (Nat → Int64) × Int32 × Int32 × Int32) => Q r u.1 u.2.1 u.2.2.1 u.2.2.2.1 u.2.2.2.2.1 u.2.2.2.2.2) (Bw (dC, dI) (KA cs) A (fun u : (Nat → Int32) × (Nat → Int64) × (Nat → Int64) × Int32 × Int32 × Int32 => (wX7 cs ad m_n m_order m_shelf m_opens m_lists m_listed u.1 m_counts m_older u.2.1 m_part m_parts u.2.2.1 u.2.2.2.1 u.2.2.2.2.1 u.2.2.2.2.2))) A) ([.ref (ad 0), .int a1] : List Value).toArray s 0 0 A) (F0 m 93 ls []) := by
        intro k93
        induction k93 with
        | zero => intro x1 x2 x4 x5 x6 m_work m_products m_ways m_used m_greaterNow m_countNow H locs ls hq; exact False.elim hq
        | succ k93 ih93 =>
          intro x1 x2 x4 x5 x6 m_work m_products m_ways m_used m_greaterNow m_countNow H locs ls hq hP hD hS hl
          unfold q7_place_93 at hq
          refine lv_iload hx hb dX7_place_93 (lv_at hl 5 rfl) ?_
          refine lv_iload hx hb dX7_place_95 (lv_at hl 4 rfl) ?_
          refine lv_icmp_ge (tgt := 118) hx hb dX7_place_97 (by decide) (fun c29 => ?_) (fun c29 => ?_)
          · have hq := hq.1 c29
            exact B118 x1 x2 x4 x5 m_work m_products m_ways m_used m_greaterNow m_countNow _ _ _ hq hP hD hS (lv_sub hl [0, 1, 2, 3, 4] rfl)
          · have hq := hq.2 c29
            refine lv_lload_n hx hb dX7_place_100 rfl (lv_at hl 2 rfl) ?_
            refine lv_aload_n hx hb dX7_place_101 rfl (lv_at hl 0 rfl) ?_
            refine lv_iload_n hx hb dX7_place_102 rfl (lv_at hl 1 rfl) ?_
            refine lv_iload hx hb dX7_place_103 (lv_at hl 3 rfl) ?_
            refine lv_iload hx hb dX7_place_105 (lv_at hl 5 rfl) ?_
            refine rol (runV ⟨hx, hb, hml, hown, hts⟩ wf_X7_waysAt ml_X7_156 (c7_waysAt l dC dI cs ad m_n m_order m_shelf m_opens m_lists m_listed m_work m_counts m_older m_products m_part m_parts m_ways m_used m_greaterNow m_countNow x1 x4 x6 hq) ⟨⟨rfl, rfl⟩, by decide, by decide⟩ (preR hP hK hN) hK hP rfl 0 rfl rfl hl.1 rfl (Nat.le_of_ble_eq_true rfl) dX7_place_107 ⟨(Nat.le_of_ble_eq_true rfl), (Nat.le_of_ble_eq_true rfl)⟩) (fun r30 hq => ?_)
            refine lv_ladd hx hb dX7_place_110 ?_
            refine lv_lstore_n (lv' := [(2, .long (x2 + r30)), (0, .ref (ad 0)), (1, .int x1), (4, .int x4), (5, .int x5), (6, .int x6)]) hx hb dX7_place_111 rfl hl (by decide) rfl (fun ls hl => ?_)
            refine lv_iinc (v := (x6 + (1 : Int32))) (lv' := [(6, .int (x6 + (1 : Int32))), (2, .long (x2 + r30)), (0, .ref (ad 0)), (1, .int x1), (4, .int x4), (5, .int x5)]) hx hb dX7_place_112 hl (k := 5) rfl (by rfl) (by decide) rfl (fun ls hl => ?_)
            refine lv_goto (tgt := 93) hx hb dX7_place_115 (by decide) ?_
            exact ih93 x1 (x2 + r30) x4 x5 (x6 + (1 : Int32)) m_work m_products m_ways m_used m_greaterNow m_countNow _ _ _ hq hP hD hS (lv_sub hl [2, 3, 1, 4, 5, 0] rfl)
      have B90 : ∀ (x1 : Int32) (x2 : Int64) (x4 : Int32) (x5 : Int32) (m_work : Nat → Int32) (m_products : Nat → Int64) (m_ways : Nat → Int64) (m_used : Int32) (m_greaterNow : Int32) (m_countNow : Int32) (H : Heap) (locs : List Loc) (ls : Array Slot), q7_place_90 m_n m_order (fun v0 v1 v2 v3 v4 v5 v6 v7 v8 => q7_place_35 m_n m_order Q k35 v0 v1 v2 v3 v4 v5 v6 v7 v8) Q x1 x2 x4 x5 m_work m_products m_ways m_used m_greaterNow m_countNow → va_P (dC, dI) vwCl (wX7 cs ad m_n m_order m_shelf m_opens m_lists m_listed m_work m_counts m_older m_products m_part m_parts m_ways m_used m_greaterNow m_countNow) H → va_D A (wX7 cs ad m_n m_order m_shelf m_opens m_lists m_listed m_work m_counts m_older m_products m_part m_parts m_ways m_used m_greaterNow m_countNow) → va_S A s.heap H locs → lv_has ls 7 [(0, .ref (ad 0)), (1, .int x1), (2, .long x2), (4, .int x4), (5, .int x5)] → W p l e ({ frames := 4, cells := 0, slots := 0, locals := 99 } : Room) s m ([.ref (ad 0), .int a1] : List Value).toArray below meth c H locs 0 0 (MQ below (va_Ql (fun (r : Int64) (u : (Nat → Int32) × (Nat → Int64) × (Nat → Int64) × Int32 × Int32 × Int32) => Q r u.1 u.2.1 u.2.2.1 u.2.2.2.1 u.2.2.2.2.1 u.2.2.2.2.2) (Bw (dC, dI) (KA cs) A (fun u : (Nat → Int32) × (Nat → Int64) × (Nat → Int64) × Int32 × Int32 × Int32 => (wX7 cs ad m_n m_order m_shelf m_opens m_lists m_listed u.1 m_counts m_older u.2.1 m_part m_parts u.2.2.1 u.2.2.2.1 u.2.2.2.2.1 u.2.2.2.2.2))) A) ([.ref (ad 0), .int a1] : List Value).toArray s 0 0 A) (F0 m 90 ls []) := by
        intro x1 x2 x4 x5 m_work m_products m_ways m_used m_greaterNow m_countNow H locs ls hq hP hD hS hl
        unfold q7_place_90 at hq
        refine lv_iconst (v := (0 : Int32)) hx hb dX7_place_90 (by decide) ?_
        refine lv_istore (lv' := [(6, .int (0 : Int32)), (0, .ref (ad 0)), (1, .int x1), (2, .long x2), (4, .int x4), (5, .int x5)]) hx hb dX7_place_91 hl (by decide) rfl (fun ls hl => ?_)
        obtain ⟨kf, hq⟩ := hq
        exact B93 kf x1 x2 x4 x5 (0 : Int32) m_work m_products m_ways m_used m_greaterNow m_countNow _ _ _ hq hP hD hS (lv_sub hl [1, 2, 3, 4, 5, 0] rfl)
      have B50 : ∀ (k50 : Nat) (x1 : Int32) (x2 : Int64) (x4 : Int32) (x5 : Int32) (x6 : Int32) (m_work : Nat → Int32) (m_products : Nat → Int64) (m_ways : Nat → Int64) (m_used : Int32) (m_greaterNow : Int32) (m_countNow : Int32) (H : Heap) (locs : List Loc) (ls : Array Slot), q7_place_50 m_n m_order (fun v0 v1 v2 v3 v4 v5 v6 v7 v8 => q7_place_35 m_n m_order Q k35 v0 v1 v2 v3 v4 v5 v6 v7 v8) Q k50 x1 x2 x4 x5 x6 m_work m_products m_ways m_used m_greaterNow m_countNow → va_P (dC, dI) vwCl (wX7 cs ad m_n m_order m_shelf m_opens m_lists m_listed m_work m_counts m_older m_products m_part m_parts m_ways m_used m_greaterNow m_countNow) H → va_D A (wX7 cs ad m_n m_order m_shelf m_opens m_lists m_listed m_work m_counts m_older m_products m_part m_parts m_ways m_used m_greaterNow m_countNow) → va_S A s.heap H locs → lv_has ls 7 [(0, .ref (ad 0)), (1, .int x1), (2, .long x2), (4, .int x4), (5, .int x5), (6, .int x6)] → W p l e ({ frames := 4, cells := 0, slots := 0, locals := 99 } : Room) s m ([.ref (ad 0), .int a1] : List Value).toArray below meth c H locs 0 0 (MQ below (va_Ql (fun (r : Int64) (u : (Nat → Int32) × (Nat → Int64) × (Nat → Int64) × Int32 × Int32 × Int32) => Q r u.1 u.2.1 u.2.2.1 u.2.2.2.1 u.2.2.2.2.1 u.2.2.2.2.2) (Bw (dC, dI) (KA cs) A (fun u : (Nat → Int32) × (Nat → Int64) × (Nat → Int64) × Int32 × Int32 × Int32 => (wX7 cs ad m_n m_order m_shelf m_opens m_lists m_listed u.1 m_counts m_older u.2.1 m_part m_parts u.2.2.1 u.2.2.2.1 u.2.2.2.2.1 u.2.2.2.2.2))) A) ([.ref (ad 0), .int a1] : List Value).toArray s 0 0 A) (F0 m 50 ls []) := by
        intro k50
        induction k50 with
        | zero => intro x1 x2 x4 x5 x6 m_work m_products m_ways m_used m_greaterNow m_countNow H locs ls hq; exact False.elim hq
        | succ k50 ih50 =>
          intro x1 x2 x4 x5 x6 m_work m_products m_ways m_used m_greaterNow m_countNow H locs ls hq hP hD hS hl
          have B81 : ∀ (s0 : Int32) (s1 : Int32) (x1 : Int32) (x2 : Int64) (x4 : Int32) (x6 : Int32) (m_work : Nat → Int32) (m_products : Nat → Int64) (m_ways : Nat → Int64) (m_used : Int32) (m_greaterNow : Int32) (m_countNow : Int32) (H : Heap) (locs : List Loc) (ls : Array Slot), q7_place_81 m_n m_order (fun v0 v1 v2 v3 v4 v5 v6 v7 v8 => q7_place_35 m_n m_order Q k35 v0 v1 v2 v3 v4 v5 v6 v7 v8) (fun v0 v1 v2 v3 v4 v5 v6 v7 v8 v9 v10 => q7_place_50 m_n m_order (fun v0 v1 v2 v3 v4 v5 v6 v7 v8 => q7_place_35 m_n m_order Q k35 v0 v1 v2 v3 v4 v5 v6 v7 v8) Q k50 v0 v1 v2 v3 v4 v5 v6 v7 v8 v9 v10) Q s0 s1 x1 x2 x4 x6 m_work m_products m_ways m_used m_greaterNow m_countNow → va_P (dC, dI) vwCl (wX7 cs ad m_n m_order m_shelf m_opens m_lists m_listed m_work m_counts m_older m_products m_part m_parts m_ways m_used m_greaterNow m_countNow) H → va_D A (wX7 cs ad m_n m_order m_shelf m_opens m_lists m_listed m_work m_counts m_older m_products m_part m_parts m_ways m_used m_greaterNow m_countNow) → va_S A s.heap H locs → lv_has ls 7 [(0, .ref (ad 0)), (1, .int x1), (2, .long x2), (4, .int x4), (6, .int x6)] → W p l e ({ frames := 4, cells := 0, slots := 0, locals := 99 } : Room) s m ([.ref (ad 0), .int a1] : List Value).toArray below meth c H locs 0 0 (MQ below (va_Ql (fun (r : Int64) (u : (Nat → Int32) × (Nat → Int64) × (Nat → Int64) × Int32 × Int32 × Int32) => Q r u.1 u.2.1 u.2.2.1 u.2.2.2.1 u.2.2.2.2.1 u.2.2.2.2.2) (Bw (dC, dI) (KA cs) A (fun u : (Nat → Int32) × (Nat → Int64) × (Nat → Int64) × Int32 × Int32 × Int32 => (wX7 cs ad m_n m_order m_shelf m_opens m_lists m_listed u.1 m_counts m_older u.2.1 m_part m_parts u.2.2.1 u.2.2.2.1 u.2.2.2.2.1 u.2.2.2.2.2))) A) ([.ref (ad 0), .int a1] : List Value).toArray s 0 0 A) (F0 m 81 ls [.int s1, .int s0]) := by
            intro s0 s1 x1 x2 x4 x6 m_work m_products m_ways m_used m_greaterNow m_countNow H locs ls hq hP hD hS hl
            unfold q7_place_81 at hq
            refine lv_iadd hx hb dX7_place_81 ?_
            refine lv_istore (lv' := [(5, .int (s0 + s1)), (0, .ref (ad 0)), (1, .int x1), (2, .long x2), (4, .int x4), (6, .int x6)]) hx hb dX7_place_82 hl (by decide) rfl (fun ls hl => ?_)
            refine lv_iinc (v := (x6 + (1 : Int32))) (lv' := [(6, .int (x6 + (1 : Int32))), (5, .int (s0 + s1)), (0, .ref (ad 0)), (1, .int x1), (2, .long x2), (4, .int x4)]) hx hb dX7_place_84 hl (k := 5) rfl (by rfl) (by decide) rfl (fun ls hl => ?_)
            refine lv_goto (tgt := 50) hx hb dX7_place_87 (by decide) ?_
            exact ih50 x1 x2 x4 (s0 + s1) (x6 + (1 : Int32)) m_work m_products m_ways m_used m_greaterNow m_countNow _ _ _ hq hP hD hS (lv_sub hl [2, 3, 4, 5, 1, 0] rfl)
          unfold q7_place_50 at hq
          refine lv_iload hx hb dX7_place_50 (lv_at hl 5 rfl) ?_
          refine lv_aload_n hx hb dX7_place_52 rfl (lv_at hl 0 rfl) ?_
          refine va_get (D := (dC, dI)) (ci := 7) (v := .ref (ad 1)) (C := RX7) (T := TX7) (N := 16) hx hb hts uwX7 hown hK hP 0 rfl rfl 1 (by decide) (hts _ fl_X7_13) (fun _ h9 => h9) rfl dX7_place_53 ?_
          refine lv_iload hx hb dX7_place_56 (lv_at hl 3 rfl) ?_
          obtain ⟨i31, hq⟩ := hq
          refine va_iald hx hb hK hP 1 0 rfl rfl i31 dX7_place_58 ?_
          refine lv_icmp_ge (tgt := 90) hx hb dX7_place_59 (by decide) (fun c32 => ?_) (fun c32 => ?_)
          · have hq := hq.1 c32
            exact B90 x1 x2 x4 x5 m_work m_products m_ways m_used m_greaterNow m_countNow _ _ _ hq hP hD hS (lv_sub hl [0, 1, 2, 3, 4] rfl)
          · have hq := hq.2 c32
            refine lv_iload hx hb dX7_place_62 (lv_at hl 4 rfl) ?_
            refine lv_aload_n hx hb dX7_place_64 rfl (lv_at hl 0 rfl) ?_
            refine va_get (D := (dC, dI)) (ci := 7) (v := .int m_used) (C := RX7) (T := TX7) (N := 16) hx hb hts uwX7 hown hK hP 0 rfl rfl 13 (by decide) (hts _ fl_X7_143) (fun _ h9 => h9) rfl dX7_place_65 ?_
            refine lv_iload hx hb dX7_place_68 (lv_at hl 5 rfl) ?_
            refine lv_ishr hx hb dX7_place_70 ?_
            refine lv_iconst (v := (1 : Int32)) hx hb dX7_place_71 (by decide) ?_
            refine lv_iand hx hb dX7_place_72 ?_
            refine lv_if_ne (tgt := 80) hx hb dX7_place_73 (by decide) (fun c33 => ?_) (fun c33 => ?_)
            · have hq := hq.1 c33
              refine lv_iconst (v := (0 : Int32)) hx hb dX7_place_80 (by decide) ?_
              exact B81 x5 (0 : Int32) x1 x2 x4 x6 m_work m_products m_ways m_used m_greaterNow m_countNow _ _ _ hq hP hD hS (lv_sub hl [0, 1, 2, 3, 5] rfl)
            · have hq := hq.2 c33
              refine lv_iconst (v := (1 : Int32)) hx hb dX7_place_76 (by decide) ?_
              refine lv_goto (tgt := 81) hx hb dX7_place_77 (by decide) ?_
              exact B81 x5 (1 : Int32) x1 x2 x4 x6 m_work m_products m_ways m_used m_greaterNow m_countNow _ _ _ hq hP hD hS (lv_sub hl [0, 1, 2, 3, 5] rfl)
      unfold q7_place_35 at hq
      refine lv_iload hx hb dX7_place_35 (lv_at hl 3 rfl) ?_
      refine lv_aload_n hx hb dX7_place_37 rfl (lv_at hl 0 rfl) ?_
      refine va_get (D := (dC, dI)) (ci := 7) (v := .int m_n) (C := RX7) (T := TX7) (N := 16) hx hb hts uwX7 hown hK hP 0 rfl rfl 0 (by decide) (hts _ fl_X7_7) (fun _ h9 => h9) rfl dX7_place_38 ?_
      refine lv_icmp_ge (tgt := 133) hx hb dX7_place_41 (by decide) (fun c34 => ?_) (fun c34 => ?_)
      · have hq := hq.1 c34
        refine lv_lload_n hx hb dX7_place_133 rfl (lv_at hl 2 rfl) ?_
        exact W.lret (v := x2) hx hb hr (fun t ht hW => ⟨⟨x2, (m_work, m_products, m_ways, m_used, m_greaterNow, m_countNow), rfl, hq, Bw_mk (by rw [ht]; exact hP) (va_K.moved hW.alike hK) hD⟩, hS.F ht⟩) hS.2.2 dX7_place_134
      · have hq := hq.2 c34
        refine lv_iconst (v := (0 : Int32)) hx hb dX7_place_44 (by decide) ?_
        refine lv_istore (lv' := [(5, .int (0 : Int32)), (0, .ref (ad 0)), (1, .int x1), (2, .long x2), (4, .int x4)]) hx hb dX7_place_45 hl (by decide) rfl (fun ls hl => ?_)
        refine lv_iconst (v := (0 : Int32)) hx hb dX7_place_47 (by decide) ?_
        refine lv_istore (lv' := [(6, .int (0 : Int32)), (5, .int (0 : Int32)), (0, .ref (ad 0)), (1, .int x1), (2, .long x2), (4, .int x4)]) hx hb dX7_place_48 hl (by decide) rfl (fun ls hl => ?_)
        obtain ⟨kf, hq⟩ := hq
        exact B50 kf x1 x2 x4 (0 : Int32) (0 : Int32) m_work m_products m_ways m_used m_greaterNow m_countNow _ _ _ hq hP hD hS (lv_sub hl [2, 3, 4, 5, 1, 0] rfl)
  have B27 : ∀ (s1 : Int32) (s2 : Int32) (x1 : Int32) (m_work : Nat → Int32) (m_products : Nat → Int64) (m_ways : Nat → Int64) (m_used : Int32) (m_greaterNow : Int32) (m_countNow : Int32) (H : Heap) (locs : List Loc) (ls : Array Slot), q7_place_27 m_n m_order Q s1 s2 x1 m_work m_products m_ways m_used m_greaterNow m_countNow → va_P (dC, dI) vwCl (wX7 cs ad m_n m_order m_shelf m_opens m_lists m_listed m_work m_counts m_older m_products m_part m_parts m_ways m_used m_greaterNow m_countNow) H → va_D A (wX7 cs ad m_n m_order m_shelf m_opens m_lists m_listed m_work m_counts m_older m_products m_part m_parts m_ways m_used m_greaterNow m_countNow) → va_S A s.heap H locs → lv_has ls 7 [(0, .ref (ad 0)), (1, .int x1)] → W p l e ({ frames := 4, cells := 0, slots := 0, locals := 99 } : Room) s m ([.ref (ad 0), .int a1] : List Value).toArray below meth c H locs 0 0 (MQ below (va_Ql (fun (r : Int64) (u : (Nat → Int32) × (Nat → Int64) × (Nat → Int64) × Int32 × Int32 × Int32) => Q r u.1 u.2.1 u.2.2.1 u.2.2.2.1 u.2.2.2.2.1 u.2.2.2.2.2) (Bw (dC, dI) (KA cs) A (fun u : (Nat → Int32) × (Nat → Int64) × (Nat → Int64) × Int32 × Int32 × Int32 => (wX7 cs ad m_n m_order m_shelf m_opens m_lists m_listed u.1 m_counts m_older u.2.1 m_part m_parts u.2.2.1 u.2.2.2.1 u.2.2.2.2.1 u.2.2.2.2.2))) A) ([.ref (ad 0), .int a1] : List Value).toArray s 0 0 A) (F0 m 27 ls [.int s2, .int s1, .ref (ad 0)]) := by
    intro s1 s2 x1 m_work m_products m_ways m_used m_greaterNow m_countNow H locs ls hq hP hD hS hl
    unfold q7_place_27 at hq
    refine swv (runV ⟨hx, hb, hml, hown, hts⟩ wf_X7_beginRow ml_X7_152 (c7_beginRow l dC dI cs ad _ m_n m_order m_shelf m_opens m_lists m_listed m_work m_counts m_older m_products m_part m_parts m_ways m_used m_greaterNow m_countNow s1 s2 hq) ⟨⟨rfl, rfl⟩, by decide, by decide⟩ (preW hP hK hN hD) hK hP rfl 0 rfl rfl hl.1 rfl (Nat.le_of_ble_eq_true rfl) dX7_place_27 ⟨(Nat.le_of_ble_eq_true rfl), (Nat.le_of_ble_eq_true rfl)⟩) hD hS hA (fun  u40 H locs hq hP hD hS => ?_)
    obtain ⟨m_products_35, m_ways_36, m_used_37, m_greaterNow_38, m_countNow_39⟩ := u40
    try dsimp only at hq
    have hP : va_P (dC, dI) vwCl (wX7 cs ad m_n m_order m_shelf m_opens m_lists m_listed m_work m_counts m_older m_products_35 m_part m_parts m_ways_36 m_used_37 m_greaterNow_38 m_countNow_39) H := hP
    have hD : va_D A (wX7 cs ad m_n m_order m_shelf m_opens m_lists m_listed m_work m_counts m_older m_products_35 m_part m_parts m_ways_36 m_used_37 m_greaterNow_38 m_countNow_39) := hD
    refine lv_lconst (v := (0 : Int64)) hx hb dX7_place_30 (by decide) ?_
    refine lv_lstore_n (lv' := [(2, .long (0 : Int64)), (0, .ref (ad 0)), (1, .int x1)]) hx hb dX7_place_31 rfl hl (by decide) rfl (fun ls hl => ?_)
    refine lv_iconst (v := (0 : Int32)) hx hb dX7_place_32 (by decide) ?_
    refine lv_istore (lv' := [(4, .int (0 : Int32)), (2, .long (0 : Int64)), (0, .ref (ad 0)), (1, .int x1)]) hx hb dX7_place_33 hl (by decide) rfl (fun ls hl => ?_)
    obtain ⟨kf, hq⟩ := hq
    exact B35 kf x1 (0 : Int64) (0 : Int32) m_work m_products_35 m_ways_36 m_used_37 m_greaterNow_38 m_countNow_39 _ _ _ hq hP hD hS (lv_sub hl [2, 3, 1, 0] rfl)
  unfold q7_place at hq
  refine lv_iload_n hx hb dX7_place_0 rfl (lv_at hl 1 rfl) ?_
  refine roi (runS ⟨hx, hb, hml, hown, hts⟩ ws_X7_isKind ml_X7_149 (c7_isKind l dC dI cs   a1 hq) ⟨⟨rfl, rfl⟩, by decide, by decide⟩ (preR va_P_nil hK hN) hN rfl hl.1 rfl (Nat.le_of_ble_eq_true rfl) dX7_place_1 ⟨(Nat.le_of_ble_eq_true rfl), (Nat.le_of_ble_eq_true rfl)⟩) (fun r41 hq => ?_)
  refine lv_if_ne (tgt := 11) hx hb dX7_place_4 (by decide) (fun c42 => ?_) (fun c42 => ?_)
  · have hq := hq.1 c42
    refine lv_aload_n hx hb dX7_place_11 rfl (lv_at hl 0 rfl) ?_
    refine lv_iload_n hx hb dX7_place_12 rfl (lv_at hl 1 rfl) ?_
    refine lv_iload_n hx hb dX7_place_13 rfl (lv_at hl 1 rfl) ?_
    refine lv_iconst (v := (-1 : Int32)) hx hb dX7_place_14 (by decide) ?_
    refine lv_icmp_ne (tgt := 22) hx hb dX7_place_15 (by decide) (fun c43 => ?_) (fun c43 => ?_)
    · have hq := hq.1 c43
      refine lv_aload_n hx hb dX7_place_22 rfl (lv_at hl 0 rfl) ?_
      refine lv_iload_n hx hb dX7_place_23 rfl (lv_at hl 1 rfl) ?_
      refine swi (runV ⟨hx, hb, hml, hown, hts⟩ wf_X7_numberOf ml_X7_89 (c7_numberOf l dC dI cs ad _ m_n m_order m_shelf m_opens m_lists m_listed m_work m_counts m_older m_products m_part m_parts m_ways m_used m_greaterNow m_countNow a1 hq) ⟨⟨rfl, rfl⟩, by decide, by decide⟩ (preW hP hK hN hD) hK hP rfl 0 rfl rfl hl.1 rfl (Nat.le_of_ble_eq_true rfl) dX7_place_24 ⟨(Nat.le_of_ble_eq_true rfl), (Nat.le_of_ble_eq_true rfl)⟩) hD hS hA (fun r44 m_work_45 H locs hq hP hD hS => ?_)
      have hP : va_P (dC, dI) vwCl (wX7 cs ad m_n m_order m_shelf m_opens m_lists m_listed m_work_45 m_counts m_older m_products m_part m_parts m_ways m_used m_greaterNow m_countNow) H := hP
      have hD : va_D A (wX7 cs ad m_n m_order m_shelf m_opens m_lists m_listed m_work_45 m_counts m_older m_products m_part m_parts m_ways m_used m_greaterNow m_countNow) := hD
      exact B27 a1 r44 a1 m_work_45 m_products m_ways m_used m_greaterNow m_countNow _ _ _ hq hP hD hS (lv_sub hl [0, 1] rfl)
    · have hq := hq.2 c43
      refine lv_iconst (v := (0 : Int32)) hx hb dX7_place_18 (by decide) ?_
      refine lv_goto (tgt := 27) hx hb dX7_place_19 (by decide) ?_
      exact B27 a1 (0 : Int32) a1 m_work m_products m_ways m_used m_greaterNow m_countNow _ _ _ hq hP hD hS (lv_sub hl [0, 1] rfl)
  · have hq := hq.2 c42
    refine lv_ldc2 (v := (-2 : Int64)) hx hb hown (hts _ kl_X7_122) dX7_place_7 ?_
    exact W.lret (v := (-2 : Int64)) hx hb hr (fun t ht hW => ⟨⟨(-2 : Int64), (m_work, m_products, m_ways, m_used, m_greaterNow, m_countNow), rfl, hq, Bw_mk (by rw [ht]; exact hP) (va_K.moved hW.alike hK) hD⟩, hS.F ht⟩) hS.2.2 dX7_place_10
