set_option maxHeartbeats 4000000 in
set_option maxRecDepth 100000 in
theorem c1_turnBack (l : Launch) (dC : Nat → ClassId) (dI : Nat → Nat → Nat) (cs : Nat → ClassId) (ao : Nat → Nat) (sz : Nat) (o_row : Nat → Int32) (o_made : Nat → Int32) (o_size : Int32) {Q : (Nat → Int32) → (Nat → Int32) → Prop} (hq : q1_turnBack o_size o_row o_made Q) : Met l yX1_turnBack (.code yX1_turnBack cX1_turnBack 2 none :: gt) ({ frames := 2, cells := 0, slots := 0, locals := 43 } : Room) (va_Pc [.ref (ao 0)] (Pw (dC, dI) (KA cs) (wX1 cs ao o_row o_made o_size) sz)) (va_Qv (fun (u : (Nat → Int32) × (Nat → Int32)) => Q u.1 u.2) (Bw (dC, dI) (KA cs) (va_A (wX1 cs ao o_row o_made o_size) sz) (fun u : (Nat → Int32) × (Nat → Int32) => (wX1 cs ao u.1 u.2 o_size))) (va_A (wX1 cs ao o_row o_made o_size) sz)) 0 0 (va_A (wX1 cs ao o_row o_made o_size) sz) := by
  refine Met.ofW (cc := cX1_turnBack) (maxL := 2) (ret := none) (by decide) rfl ?_
  intro p e s m args below meth c s₁ B hml hv
  obtain ⟨rfl, hsz, hP, hK, hD0, hN⟩ := hv
  have hx := B.exec
  have hb := B.bytes
  have hr := B.returns
  have hts0 := atoms_spec (ws := (.code yX1_turnBack cX1_turnBack 2 none :: gt)) B.pre
  have hts : ∀ w ∈ gt, w.before _ s = true := fun w h => hts0 w (List.mem_cons_of_mem _ h)
  have hown : s.vm.findClass RX1 = some m.cls := findClass_of_methodNamed B.named
  have hlocks := B.notSynchronized
  subst hsz
  have hD := hD0.self (sz := s.heap.size)
  generalize hAe : va_A (wX1 cs ao o_row o_made o_size) s.heap.size = A at hD ⊢
  have hA : ∀ q : Nat, s.heap.size ≤ q → A q := fun q h => by rw [← hAe]; exact Or.inr h
  have hS : va_S A s.heap s.heap [] := va_S.rf
  have hl := lv_entry ([.ref (ao 0)]) (n := 2) (Nat.le_of_ble_eq_true rfl)
  rw [lg_entry_eq]
  generalize (lg_sl ([.ref (ao 0)]) ++ List.replicate (2 - (lg_sl ([.ref (ao 0)])).length) Slot.unset).toArray = ls at hl ⊢
  have hl : lv_has ls 2 [(0, .ref (ao 0))] := hl
  have B27 : ∀ (o_row : Nat → Int32) (o_made : Nat → Int32) (H : Heap) (locs : List Loc) (ls : Array Slot), q1_turnBack_27 o_size Q o_row o_made → va_P (dC, dI) vwCl (wX1 cs ao o_row o_made o_size) H → va_D A (wX1 cs ao o_row o_made o_size) → va_S A s.heap H locs → lv_has ls 2 [(0, .ref (ao 0))] → W p l e ({ frames := 2, cells := 0, slots := 0, locals := 43 } : Room) s m ([.ref (ao 0)] : List Value).toArray below meth c H locs 0 0 (MQ below (va_Qv (fun (u : (Nat → Int32) × (Nat → Int32)) => Q u.1 u.2) (Bw (dC, dI) (KA cs) A (fun u : (Nat → Int32) × (Nat → Int32) => (wX1 cs ao u.1 u.2 o_size))) A) ([.ref (ao 0)] : List Value).toArray s 0 0 A) (F0 m 27 ls []) := by
    intro o_row o_made H locs ls hq hP hD hS hl
    unfold q1_turnBack_27 at hq
    refine lv_aload_n hx hb dX1_turnBack_27 rfl (lv_at hl 0 rfl) ?_
    refine swv (runV ⟨hx, hb, hml, hown, hts⟩ wf_X1_keepMade ml_X1_34 (c1_keepMade l dC dI cs ao _ o_row o_made o_size  hq) ⟨⟨rfl, rfl⟩, by decide, by decide⟩ (preW hP hK hN hD) hK hP rfl 0 rfl rfl hl.1 rfl (Nat.le_of_ble_eq_true rfl) dX1_turnBack_28 ⟨(Nat.le_of_ble_eq_true rfl), (Nat.le_of_ble_eq_true rfl)⟩) hD hS hA (fun  o_row_7 H locs hq hP hD hS => ?_)
    have hP : va_P (dC, dI) vwCl (wX1 cs ao o_row_7 o_made o_size) H := hP
    have hD : va_D A (wX1 cs ao o_row_7 o_made o_size) := hD
    exact W.vret hx hb hr (fun t ht hW => ⟨⟨(o_row_7, o_made), rfl, hq, Bw_mk (by rw [ht]; exact hP) (va_K.moved hW.alike hK) hD⟩, hS.F ht⟩) hS.2.2 dX1_turnBack_31
  have B2 : ∀ (k2 : Nat) (x1 : Int32) (o_row : Nat → Int32) (o_made : Nat → Int32) (H : Heap) (locs : List Loc) (ls : Array Slot), q1_turnBack_2 o_size Q k2 x1 o_row o_made → va_P (dC, dI) vwCl (wX1 cs ao o_row o_made o_size) H → va_D A (wX1 cs ao o_row o_made o_size) → va_S A s.heap H locs → lv_has ls 2 [(0, .ref (ao 0)), (1, .int x1)] → W p l e ({ frames := 2, cells := 0, slots := 0, locals := 43 } : Room) s m ([.ref (ao 0)] : List Value).toArray below meth c H locs 0 0 (MQ below (va_Qv (fun (u : (Nat → Int32) × (Nat → Int32)) => Q u.1 u.2) (Bw (dC, dI) (KA cs) A (fun u : (Nat → Int32) × (Nat → Int32) => (wX1 cs ao u.1 u.2 o_size))) A) ([.ref (ao 0)] : List Value).toArray s 0 0 A) (F0 m 2 ls []) := by
    intro k2
    induction k2 with
    | zero => intro x1 o_row o_made H locs ls hq; exact False.elim hq
    | succ k2 ih2 =>
      intro x1 o_row o_made H locs ls hq hP hD hS hl
      unfold q1_turnBack_2 at hq
      refine lv_iload_n hx hb dX1_turnBack_2 rfl (lv_at hl 1 rfl) ?_
      refine lv_aload_n hx hb dX1_turnBack_3 rfl (lv_at hl 0 rfl) ?_
      refine va_get (D := (dC, dI)) (ci := 1) (v := .int o_size) (C := RX1) (T := TX1) (N := 3) hx hb hts uwX1 hown hK hP 0 rfl rfl 2 (by decide) (hts _ fl_X1_24) (fun _ h9 => h9) rfl dX1_turnBack_4 ?_
      refine lv_icmp_ge (tgt := 27) hx hb dX1_turnBack_7 (by decide) (fun c9 => ?_) (fun c9 => ?_)
      · have hq := hq.1 c9
        exact B27 o_row o_made _ _ _ hq hP hD hS (lv_sub hl [0] rfl)
      · have hq := hq.2 c9
        refine lv_aload_n hx hb dX1_turnBack_10 rfl (lv_at hl 0 rfl) ?_
        refine lv_aload_n hx hb dX1_turnBack_11 rfl (lv_at hl 0 rfl) ?_
        refine va_get (D := (dC, dI)) (ci := 1) (v := .ref (ao 1)) (C := RX1) (T := TX1) (N := 3) hx hb hts uwX1 hown hK hP 0 rfl rfl 0 (by decide) (hts _ fl_X1_9) (fun _ h9 => h9) rfl dX1_turnBack_12 ?_
        refine lv_iload_n hx hb dX1_turnBack_15 rfl (lv_at hl 1 rfl) ?_
        obtain ⟨i10, hq⟩ := hq
        refine va_iald hx hb hK hP 1 0 rfl rfl i10 dX1_turnBack_16 ?_
        refine lv_iload_n hx hb dX1_turnBack_17 rfl (lv_at hl 1 rfl) ?_
        refine swv (runV ⟨hx, hb, hml, hown, hts⟩ wf_X1_makeAt ml_X1_41 (c1_makeAt l dC dI cs ao _ o_row o_made o_size (o_row x1.toNatClampNeg) x1 hq) ⟨⟨rfl, rfl⟩, by decide, by decide⟩ (preW hP hK hN hD) hK hP rfl 0 rfl rfl hl.1 rfl (Nat.le_of_ble_eq_true rfl) dX1_turnBack_18 ⟨(Nat.le_of_ble_eq_true rfl), (Nat.le_of_ble_eq_true rfl)⟩) hD hS hA (fun  o_made_11 H locs hq hP hD hS => ?_)
        have hP : va_P (dC, dI) vwCl (wX1 cs ao o_row o_made_11 o_size) H := hP
        have hD : va_D A (wX1 cs ao o_row o_made_11 o_size) := hD
        refine lv_iinc (v := (x1 + (1 : Int32))) (lv' := [(1, .int (x1 + (1 : Int32))), (0, .ref (ao 0))]) hx hb dX1_turnBack_21 hl (k := 1) rfl (by rfl) (by decide) rfl (fun ls hl => ?_)
        refine lv_goto (tgt := 2) hx hb dX1_turnBack_24 (by decide) ?_
        exact ih2 (x1 + (1 : Int32)) o_row o_made_11 _ _ _ hq hP hD hS (lv_sub hl [1, 0] rfl)
  unfold q1_turnBack at hq
  refine lv_iconst (v := (0 : Int32)) hx hb dX1_turnBack_0 (by decide) ?_
  refine lv_istore_n (lv' := [(1, .int (0 : Int32)), (0, .ref (ao 0))]) hx hb dX1_turnBack_1 rfl hl (by decide) rfl (fun ls hl => ?_)
  obtain ⟨kf, hq⟩ := hq
  exact B2 kf (0 : Int32) o_row o_made _ _ _ hq hP hD hS (lv_sub hl [1, 0] rfl)
set_option maxHeartbeats 4000000 in
set_option maxRecDepth 100000 in
theorem c1_makeRounds (l : Launch) (dC : Nat → ClassId) (dI : Nat → Nat → Nat) (cs : Nat → ClassId) (ao : Nat → Nat) (sz : Nat) (o_row : Nat → Int32) (o_made : Nat → Int32) (o_size : Int32) {Q : (Nat → Int32) → (Nat → Int32) → Prop} (hq : q1_makeRounds o_size o_row o_made Q) : Met l yX1_makeRounds (.code yX1_makeRounds cX1_makeRounds 4 none :: gt) ({ frames := 2, cells := 0, slots := 0, locals := 43 } : Room) (va_Pc [.ref (ao 0)] (Pw (dC, dI) (KA cs) (wX1 cs ao o_row o_made o_size) sz)) (va_Qv (fun (u : (Nat → Int32) × (Nat → Int32)) => Q u.1 u.2) (Bw (dC, dI) (KA cs) (va_A (wX1 cs ao o_row o_made o_size) sz) (fun u : (Nat → Int32) × (Nat → Int32) => (wX1 cs ao u.1 u.2 o_size))) (va_A (wX1 cs ao o_row o_made o_size) sz)) 0 0 (va_A (wX1 cs ao o_row o_made o_size) sz) := by
  refine Met.ofW (cc := cX1_makeRounds) (maxL := 4) (ret := none) (by decide) rfl ?_
  intro p e s m args below meth c s₁ B hml hv
  obtain ⟨rfl, hsz, hP, hK, hD0, hN⟩ := hv
  have hx := B.exec
  have hb := B.bytes
  have hr := B.returns
  have hts0 := atoms_spec (ws := (.code yX1_makeRounds cX1_makeRounds 4 none :: gt)) B.pre
  have hts : ∀ w ∈ gt, w.before _ s = true := fun w h => hts0 w (List.mem_cons_of_mem _ h)
  have hown : s.vm.findClass RX1 = some m.cls := findClass_of_methodNamed B.named
  have hlocks := B.notSynchronized
  subst hsz
  have hD := hD0.self (sz := s.heap.size)
  generalize hAe : va_A (wX1 cs ao o_row o_made o_size) s.heap.size = A at hD ⊢
  have hA : ∀ q : Nat, s.heap.size ≤ q → A q := fun q h => by rw [← hAe]; exact Or.inr h
  have hS : va_S A s.heap s.heap [] := va_S.rf
  have hl := lv_entry ([.ref (ao 0)]) (n := 4) (Nat.le_of_ble_eq_true rfl)
  rw [lg_entry_eq]
  generalize (lg_sl ([.ref (ao 0)]) ++ List.replicate (4 - (lg_sl ([.ref (ao 0)])).length) Slot.unset).toArray = ls at hl ⊢
  have hl : lv_has ls 4 [(0, .ref (ao 0))] := hl
  have B60 : ∀ (x1 : Int32) (o_row : Nat → Int32) (o_made : Nat → Int32) (H : Heap) (locs : List Loc) (ls : Array Slot), q1_makeRounds_60 o_size Q x1 o_row o_made → va_P (dC, dI) vwCl (wX1 cs ao o_row o_made o_size) H → va_D A (wX1 cs ao o_row o_made o_size) → va_S A s.heap H locs → lv_has ls 4 [(0, .ref (ao 0)), (1, .int x1)] → W p l e ({ frames := 2, cells := 0, slots := 0, locals := 43 } : Room) s m ([.ref (ao 0)] : List Value).toArray below meth c H locs 0 0 (MQ below (va_Qv (fun (u : (Nat → Int32) × (Nat → Int32)) => Q u.1 u.2) (Bw (dC, dI) (KA cs) A (fun u : (Nat → Int32) × (Nat → Int32) => (wX1 cs ao u.1 u.2 o_size))) A) ([.ref (ao 0)] : List Value).toArray s 0 0 A) (F0 m 60 ls []) := by
    intro x1 o_row o_made H locs ls hq hP hD hS hl
    unfold q1_makeRounds_60 at hq
    refine lv_aload_n hx hb dX1_makeRounds_60 rfl (lv_at hl 0 rfl) ?_
    refine lv_aload_n hx hb dX1_makeRounds_61 rfl (lv_at hl 0 rfl) ?_
    refine lv_aload_n hx hb dX1_makeRounds_62 rfl (lv_at hl 0 rfl) ?_
    refine va_get (D := (dC, dI)) (ci := 1) (v := .int o_size) (C := RX1) (T := TX1) (N := 3) hx hb hts uwX1 hown hK hP 0 rfl rfl 2 (by decide) (hts _ fl_X1_24) (fun _ h9 => h9) rfl dX1_makeRounds_63 ?_
    refine lv_iconst (v := (1 : Int32)) hx hb dX1_makeRounds_66 (by decide) ?_
    refine lv_isub hx hb dX1_makeRounds_67 ?_
    refine roi (runV ⟨hx, hb, hml, hown, hts⟩ wf_X1_follow ml_X1_37 (c1_follow l dC dI cs ao o_row o_made o_size (o_size - (1 : Int32)) hq) ⟨⟨rfl, rfl⟩, by decide, by decide⟩ (preR hP hK hN) hK hP rfl 0 rfl rfl hl.1 rfl (Nat.le_of_ble_eq_true rfl) dX1_makeRounds_68 ⟨(Nat.le_of_ble_eq_true rfl), (Nat.le_of_ble_eq_true rfl)⟩) (fun r13 hq => ?_)
    refine lv_iload_n hx hb dX1_makeRounds_71 rfl (lv_at hl 1 rfl) ?_
    refine swv (runV ⟨hx, hb, hml, hown, hts⟩ wf_X1_makeAt ml_X1_41 (c1_makeAt l dC dI cs ao _ o_row o_made o_size r13 x1 hq) ⟨⟨rfl, rfl⟩, by decide, by decide⟩ (preW hP hK hN hD) hK hP rfl 0 rfl rfl hl.1 rfl (Nat.le_of_ble_eq_true rfl) dX1_makeRounds_72 ⟨(Nat.le_of_ble_eq_true rfl), (Nat.le_of_ble_eq_true rfl)⟩) hD hS hA (fun  o_made_14 H locs hq hP hD hS => ?_)
    have hP : va_P (dC, dI) vwCl (wX1 cs ao o_row o_made_14 o_size) H := hP
    have hD : va_D A (wX1 cs ao o_row o_made_14 o_size) := hD
    refine lv_aload_n hx hb dX1_makeRounds_75 rfl (lv_at hl 0 rfl) ?_
    refine swv (runV ⟨hx, hb, hml, hown, hts⟩ wf_X1_keepMade ml_X1_34 (c1_keepMade l dC dI cs ao _ o_row o_made_14 o_size  hq) ⟨⟨rfl, rfl⟩, by decide, by decide⟩ (preW hP hK hN hD) hK hP rfl 0 rfl rfl hl.1 rfl (Nat.le_of_ble_eq_true rfl) dX1_makeRounds_76 ⟨(Nat.le_of_ble_eq_true rfl), (Nat.le_of_ble_eq_true rfl)⟩) hD hS hA (fun  o_row_16 H locs hq hP hD hS => ?_)
    have hP : va_P (dC, dI) vwCl (wX1 cs ao o_row_16 o_made_14 o_size) H := hP
    have hD : va_D A (wX1 cs ao o_row_16 o_made_14 o_size) := hD
    exact W.vret hx hb hr (fun t ht hW => ⟨⟨(o_row_16, o_made_14), rfl, hq, Bw_mk (by rw [ht]; exact hP) (va_K.moved hW.alike hK) hD⟩, hS.F ht⟩) hS.2.2 dX1_makeRounds_79
  have B9 : ∀ (k9 : Nat) (x1 : Int32) (x2 : Int32) (o_row : Nat → Int32) (o_made : Nat → Int32) (H : Heap) (locs : List Loc) (ls : Array Slot), q1_makeRounds_9 o_size Q k9 x1 x2 o_row o_made → va_P (dC, dI) vwCl (wX1 cs ao o_row o_made o_size) H → va_D A (wX1 cs ao o_row o_made o_size) → va_S A s.heap H locs → lv_has ls 4 [(0, .ref (ao 0)), (1, .int x1), (2, .int x2)] → W p l e ({ frames := 2, cells := 0, slots := 0, locals := 43 } : Room) s m ([.ref (ao 0)] : List Value).toArray below meth c H locs 0 0 (MQ below (va_Qv (fun (u : (Nat → Int32) × (Nat → Int32)) => Q u.1 u.2) (Bw (dC, dI) (KA cs) A (fun u : (Nat → Int32) × (Nat → Int32) => (wX1 cs ao u.1 u.2 o_size))) A) ([.ref (ao 0)] : List Value).toArray s 0 0 A) (F0 m 9 ls []) := by
    intro k9
    induction k9 with
    | zero => intro x1 x2 o_row o_made H locs ls hq; exact False.elim hq
    | succ k9 ih9 =>
      intro x1 x2 o_row o_made H locs ls hq hP hD hS hl
      have B45 : ∀ (s1 : Int32) (s2 : Int32) (x1 : Int32) (x2 : Int32) (x3 : Int32) (o_row : Nat → Int32) (o_made : Nat → Int32) (H : Heap) (locs : List Loc) (ls : Array Slot), q1_makeRounds_45 o_size (fun v0 v1 v2 v3 => q1_makeRounds_9 o_size Q k9 v0 v1 v2 v3) Q s1 s2 x1 x2 x3 o_row o_made → va_P (dC, dI) vwCl (wX1 cs ao o_row o_made o_size) H → va_D A (wX1 cs ao o_row o_made o_size) → va_S A s.heap H locs → lv_has ls 4 [(0, .ref (ao 0)), (1, .int x1), (2, .int x2), (3, .int x3)] → W p l e ({ frames := 2, cells := 0, slots := 0, locals := 43 } : Room) s m ([.ref (ao 0)] : List Value).toArray below meth c H locs 0 0 (MQ below (va_Qv (fun (u : (Nat → Int32) × (Nat → Int32)) => Q u.1 u.2) (Bw (dC, dI) (KA cs) A (fun u : (Nat → Int32) × (Nat → Int32) => (wX1 cs ao u.1 u.2 o_size))) A) ([.ref (ao 0)] : List Value).toArray s 0 0 A) (F0 m 45 ls [.int s2, .int s1, .ref (ao 0)]) := by
        intro s1 s2 x1 x2 x3 o_row o_made H locs ls hq hP hD hS hl
        unfold q1_makeRounds_45 at hq
        refine swv (runV ⟨hx, hb, hml, hown, hts⟩ wf_X1_makeAt ml_X1_41 (c1_makeAt l dC dI cs ao _ o_row o_made o_size s1 s2 hq) ⟨⟨rfl, rfl⟩, by decide, by decide⟩ (preW hP hK hN hD) hK hP rfl 0 rfl rfl hl.1 rfl (Nat.le_of_ble_eq_true rfl) dX1_makeRounds_45 ⟨(Nat.le_of_ble_eq_true rfl), (Nat.le_of_ble_eq_true rfl)⟩) hD hS hA (fun  o_made_18 H locs hq hP hD hS => ?_)
        have hP : va_P (dC, dI) vwCl (wX1 cs ao o_row o_made_18 o_size) H := hP
        have hD : va_D A (wX1 cs ao o_row o_made_18 o_size) := hD
        refine lv_iload_n hx hb dX1_makeRounds_48 rfl (lv_at hl 1 rfl) ?_
        refine lv_iload_n hx hb dX1_makeRounds_49 rfl (lv_at hl 3 rfl) ?_
        refine va_mmax hx hb (hml.trans hl.1.symm) hown (hts _ ml_X1_45) (hts _ sm_J9_max) (hts _ in_J9) (hts _ cw_J9_max) (Nat.le_of_ble_eq_true rfl) (Nat.le_of_ble_eq_true rfl) (Nat.le_of_ble_eq_true rfl) (Nat.le_of_ble_eq_true rfl) dX1_makeRounds_50 ?_
        refine lv_istore_n (lv' := [(1, .int (if x1 < x3 then x3 else x1)), (0, .ref (ao 0)), (2, .int x2), (3, .int x3)]) hx hb dX1_makeRounds_53 rfl hl (by decide) rfl (fun ls hl => ?_)
        refine lv_iinc (v := (x2 + (1 : Int32))) (lv' := [(2, .int (x2 + (1 : Int32))), (1, .int (if x1 < x3 then x3 else x1)), (0, .ref (ao 0)), (3, .int x3)]) hx hb dX1_makeRounds_54 hl (k := 2) rfl (by rfl) (by decide) rfl (fun ls hl => ?_)
        refine lv_goto (tgt := 9) hx hb dX1_makeRounds_57 (by decide) ?_
        exact ih9 (if x1 < x3 then x3 else x1) (x2 + (1 : Int32)) o_row o_made_18 _ _ _ hq hP hD hS (lv_sub hl [2, 1, 0] rfl)
      unfold q1_makeRounds_9 at hq
      refine lv_iload_n hx hb dX1_makeRounds_9 rfl (lv_at hl 2 rfl) ?_
      refine lv_iconst (v := (1 : Int32)) hx hb dX1_makeRounds_10 (by decide) ?_
      refine lv_iadd hx hb dX1_makeRounds_11 ?_
      refine lv_aload_n hx hb dX1_makeRounds_12 rfl (lv_at hl 0 rfl) ?_
      refine va_get (D := (dC, dI)) (ci := 1) (v := .int o_size) (C := RX1) (T := TX1) (N := 3) hx hb hts uwX1 hown hK hP 0 rfl rfl 2 (by decide) (hts _ fl_X1_24) (fun _ h9 => h9) rfl dX1_makeRounds_13 ?_
      refine lv_icmp_ge (tgt := 60) hx hb dX1_makeRounds_16 (by decide) (fun c20 => ?_) (fun c20 => ?_)
      · have hq := hq.1 c20
        exact B60 x1 o_row o_made _ _ _ hq hP hD hS (lv_sub hl [0, 1] rfl)
      · have hq := hq.2 c20
        refine lv_aload_n hx hb dX1_makeRounds_19 rfl (lv_at hl 0 rfl) ?_
        refine va_get (D := (dC, dI)) (ci := 1) (v := .ref (ao 1)) (C := RX1) (T := TX1) (N := 3) hx hb hts uwX1 hown hK hP 0 rfl rfl 0 (by decide) (hts _ fl_X1_9) (fun _ h9 => h9) rfl dX1_makeRounds_20 ?_
        refine lv_iload_n hx hb dX1_makeRounds_23 rfl (lv_at hl 2 rfl) ?_
        refine lv_iconst (v := (1 : Int32)) hx hb dX1_makeRounds_24 (by decide) ?_
        refine lv_iadd hx hb dX1_makeRounds_25 ?_
        obtain ⟨i21, hq⟩ := hq
        refine va_iald hx hb hK hP 1 0 rfl rfl i21 dX1_makeRounds_26 ?_
        refine lv_istore_n (lv' := [(3, .int (o_row (x2 + (1 : Int32)).toNatClampNeg)), (0, .ref (ao 0)), (1, .int x1), (2, .int x2)]) hx hb dX1_makeRounds_27 rfl hl (by decide) rfl (fun ls hl => ?_)
        refine lv_aload_n hx hb dX1_makeRounds_28 rfl (lv_at hl 1 rfl) ?_
        refine lv_aload_n hx hb dX1_makeRounds_29 rfl (lv_at hl 1 rfl) ?_
        refine va_get (D := (dC, dI)) (ci := 1) (v := .ref (ao 1)) (C := RX1) (T := TX1) (N := 3) hx hb hts uwX1 hown hK hP 0 rfl rfl 0 (by decide) (hts _ fl_X1_9) (fun _ h9 => h9) rfl dX1_makeRounds_30 ?_
        refine lv_iload_n hx hb dX1_makeRounds_33 rfl (lv_at hl 3 rfl) ?_
        obtain ⟨i22, hq⟩ := hq
        refine va_iald hx hb hK hP 1 0 rfl rfl i22 dX1_makeRounds_34 ?_
        refine lv_iload_n hx hb dX1_makeRounds_35 rfl (lv_at hl 0 rfl) ?_
        refine lv_iload_n hx hb dX1_makeRounds_36 rfl (lv_at hl 2 rfl) ?_
        refine lv_icmp_le (tgt := 44) hx hb dX1_makeRounds_37 (by decide) (fun c23 => ?_) (fun c23 => ?_)
        · have hq := hq.1 c23
          refine lv_iload_n hx hb dX1_makeRounds_44 rfl (lv_at hl 0 rfl) ?_
          exact B45 (o_row x2.toNatClampNeg) (o_row (x2 + (1 : Int32)).toNatClampNeg) x1 x2 (o_row (x2 + (1 : Int32)).toNatClampNeg) o_row o_made _ _ _ hq hP hD hS (lv_sub hl [1, 2, 3, 0] rfl)
        · have hq := hq.2 c23
          refine lv_iload_n hx hb dX1_makeRounds_40 rfl (lv_at hl 2 rfl) ?_
          refine lv_goto (tgt := 45) hx hb dX1_makeRounds_41 (by decide) ?_
          exact B45 (o_row x2.toNatClampNeg) x1 x1 x2 (o_row (x2 + (1 : Int32)).toNatClampNeg) o_row o_made _ _ _ hq hP hD hS (lv_sub hl [1, 2, 3, 0] rfl)
  unfold q1_makeRounds at hq
  refine lv_aload_n hx hb dX1_makeRounds_0 rfl (lv_at hl 0 rfl) ?_
  refine va_get (D := (dC, dI)) (ci := 1) (v := .ref (ao 1)) (C := RX1) (T := TX1) (N := 3) hx hb hts uwX1 hown hK hP 0 rfl rfl 0 (by decide) (hts _ fl_X1_9) (fun _ h9 => h9) rfl dX1_makeRounds_1 ?_
  refine lv_iconst (v := (0 : Int32)) hx hb dX1_makeRounds_4 (by decide) ?_
  obtain ⟨i24, hq⟩ := hq
  refine va_iald hx hb hK hP 1 0 rfl rfl i24 dX1_makeRounds_5 ?_
  refine lv_istore_n (lv' := [(1, .int (o_row (0 : Int32).toNatClampNeg)), (0, .ref (ao 0))]) hx hb dX1_makeRounds_6 rfl hl (by decide) rfl (fun ls hl => ?_)
  refine lv_iconst (v := (0 : Int32)) hx hb dX1_makeRounds_7 (by decide) ?_
  refine lv_istore_n (lv' := [(2, .int (0 : Int32)), (1, .int (o_row (0 : Int32).toNatClampNeg)), (0, .ref (ao 0))]) hx hb dX1_makeRounds_8 rfl hl (by decide) rfl (fun ls hl => ?_)
  obtain ⟨kf, hq⟩ := hq
  exact B9 kf (o_row (0 : Int32).toNatClampNeg) (0 : Int32) o_row o_made _ _ _ hq hP hD hS (lv_sub hl [2, 1, 0] rfl)
set_option maxHeartbeats 4000000 in
set_option maxRecDepth 100000 in
theorem c1_roundLength (l : Launch) (dC : Nat → ClassId) (dI : Nat → Nat → Nat) (cs : Nat → ClassId) (ao : Nat → Nat) (o_row : Nat → Int32) (o_made : Nat → Int32) (o_size : Int32) (a1 : Int32) {Q : Int32 → Prop} (hq : q1_roundLength o_row o_size a1 Q) : Met l yX1_roundLength (.code yX1_roundLength cX1_roundLength 4 (some .int) :: gt) ({ frames := 2, cells := 0, slots := 0, locals := 42 } : Room) (va_Pc [.ref (ao 0), .int a1] (Pr (dC, dI) (KA cs) (wX1 cs ao o_row o_made o_size))) (vp_Si Q) 0 0 (fun _ => False) := by
  refine Met.ofW (cc := cX1_roundLength) (maxL := 4) (ret := (some .int)) (by decide) rfl ?_
  intro p e s m args below meth c s₁ B hml hv
  obtain ⟨rfl, hP, hK, hN⟩ := hv
  have hx := B.exec
  have hb := B.bytes
  have hr := B.returns
  have hts0 := atoms_spec (ws := (.code yX1_roundLength cX1_roundLength 4 (some .int) :: gt)) B.pre
  have hts : ∀ w ∈ gt, w.before _ s = true := fun w h => hts0 w (List.mem_cons_of_mem _ h)
  have hown : s.vm.findClass RX1 = some m.cls := findClass_of_methodNamed B.named
  have hlocks := B.notSynchronized
  have hl := lv_entry ([.ref (ao 0), .int a1]) (n := 4) (Nat.le_of_ble_eq_true rfl)
  rw [lg_entry_eq]
  generalize (lg_sl ([.ref (ao 0), .int a1]) ++ List.replicate (4 - (lg_sl ([.ref (ao 0), .int a1])).length) Slot.unset).toArray = ls at hl ⊢
  have hl : lv_has ls 4 [(0, .ref (ao 0)), (1, .int a1)] := hl
  have B8 : ∀ (k8 : Nat) (x1 : Int32) (x2 : Int32) (x3 : Int32) (ls : Array Slot), q1_roundLength_8 o_row o_size Q k8 x1 x2 x3 → lv_has ls 4 [(0, .ref (ao 0)), (1, .int x1), (2, .int x2), (3, .int x3)] → W p l e ({ frames := 2, cells := 0, slots := 0, locals := 42 } : Room) s m ([.ref (ao 0), .int a1] : List Value).toArray below meth c s.heap [] 0 0 (MQ below (vp_Si Q) ([.ref (ao 0), .int a1] : List Value).toArray s 0 0 (fun _ => False)) (F0 m 8 ls []) := by
    intro k8
    induction k8 with
    | zero => intro x1 x2 x3 ls hq; exact False.elim hq
    | succ k8 ih8 =>
      intro x1 x2 x3 ls hq hl
      unfold q1_roundLength_8 at hq
      refine lv_iload_n hx hb dX1_roundLength_8 rfl (lv_at hl 2 rfl) ?_
      refine lv_iload_n hx hb dX1_roundLength_9 rfl (lv_at hl 1 rfl) ?_
      refine lv_icmp_eq (tgt := 33) hx hb dX1_roundLength_10 (by decide) (fun c5 => ?_) (fun c5 => ?_)
      · have hq := hq.1 c5
        refine lv_iload_n hx hb dX1_roundLength_33 rfl (lv_at hl 3 rfl) ?_
        exact W.iret (v := x3) hx hb hr (fun t ht hW => ⟨x3, rfl, hq, ht⟩) (fun q h => absurd h List.not_mem_nil) dX1_roundLength_34
      · have hq := hq.2 c5
        refine lv_iload_n hx hb dX1_roundLength_13 rfl (lv_at hl 3 rfl) ?_
        refine lv_aload_n hx hb dX1_roundLength_14 rfl (lv_at hl 0 rfl) ?_
        refine va_get (D := (dC, dI)) (ci := 1) (v := .int o_size) (C := RX1) (T := TX1) (N := 3) hx hb hts uwX1 hown hK hP 0 rfl rfl 2 (by decide) (hts _ fl_X1_24) (fun _ h9 => h9) rfl dX1_roundLength_15 ?_
        refine lv_icmp_ge (tgt := 33) hx hb dX1_roundLength_18 (by decide) (fun c6 => ?_) (fun c6 => ?_)
        · have hq := hq.1 c6
          refine lv_iload_n hx hb dX1_roundLength_33 rfl (lv_at hl 3 rfl) ?_
          exact W.iret (v := x3) hx hb hr (fun t ht hW => ⟨x3, rfl, hq, ht⟩) (fun q h => absurd h List.not_mem_nil) dX1_roundLength_34
        · have hq := hq.2 c6
          refine lv_aload_n hx hb dX1_roundLength_21 rfl (lv_at hl 0 rfl) ?_
          refine lv_iload_n hx hb dX1_roundLength_22 rfl (lv_at hl 2 rfl) ?_
          refine roi (runV ⟨hx, hb, hml, hown, hts⟩ wf_X1_follow ml_X1_37 (c1_follow l dC dI cs ao o_row o_made o_size x2 hq) ⟨⟨rfl, rfl⟩, by decide, by decide⟩ (preR hP hK hN) hK hP rfl 0 rfl rfl hl.1 rfl (Nat.le_of_ble_eq_true rfl) dX1_roundLength_23 ⟨(Nat.le_of_ble_eq_true rfl), (Nat.le_of_ble_eq_true rfl)⟩) (fun r7 hq => ?_)
          refine lv_istore_n (lv' := [(2, .int r7), (0, .ref (ao 0)), (1, .int x1), (3, .int x3)]) hx hb dX1_roundLength_26 rfl hl (by decide) rfl (fun ls hl => ?_)
          refine lv_iinc (v := (x3 + (1 : Int32))) (lv' := [(3, .int (x3 + (1 : Int32))), (2, .int r7), (0, .ref (ao 0)), (1, .int x1)]) hx hb dX1_roundLength_27 hl (k := 3) rfl (by rfl) (by decide) rfl (fun ls hl => ?_)
          refine lv_goto (tgt := 8) hx hb dX1_roundLength_30 (by decide) ?_
          exact ih8 x1 r7 (x3 + (1 : Int32)) _ hq (lv_sub hl [2, 3, 1, 0] rfl)
  unfold q1_roundLength at hq
  refine lv_aload_n hx hb dX1_roundLength_0 rfl (lv_at hl 0 rfl) ?_
  refine lv_iload_n hx hb dX1_roundLength_1 rfl (lv_at hl 1 rfl) ?_
  refine roi (runV ⟨hx, hb, hml, hown, hts⟩ wf_X1_follow ml_X1_37 (c1_follow l dC dI cs ao o_row o_made o_size a1 hq) ⟨⟨rfl, rfl⟩, by decide, by decide⟩ (preR hP hK hN) hK hP rfl 0 rfl rfl hl.1 rfl (Nat.le_of_ble_eq_true rfl) dX1_roundLength_2 ⟨(Nat.le_of_ble_eq_true rfl), (Nat.le_of_ble_eq_true rfl)⟩) (fun r8 hq => ?_)
  refine lv_istore_n (lv' := [(2, .int r8), (0, .ref (ao 0)), (1, .int a1)]) hx hb dX1_roundLength_5 rfl hl (by decide) rfl (fun ls hl => ?_)
  refine lv_iconst (v := (1 : Int32)) hx hb dX1_roundLength_6 (by decide) ?_
  refine lv_istore_n (lv' := [(3, .int (1 : Int32)), (2, .int r8), (0, .ref (ao 0)), (1, .int a1)]) hx hb dX1_roundLength_7 rfl hl (by decide) rfl (fun ls hl => ?_)
  obtain ⟨kf, hq⟩ := hq
  exact B8 kf a1 r8 (1 : Int32) _ hq (lv_sub hl [2, 3, 1, 0] rfl)
set_option maxHeartbeats 4000000 in
set_option maxRecDepth 100000 in
theorem c1_leadsRound (l : Launch) (dC : Nat → ClassId) (dI : Nat → Nat → Nat) (cs : Nat → ClassId) (ao : Nat → Nat) (o_row : Nat → Int32) (o_made : Nat → Int32) (o_size : Int32) (a1 : Int32) {Q : Int32 → Prop} (hq : q1_leadsRound o_row o_size a1 Q) : Met l yX1_leadsRound (.code yX1_leadsRound cX1_leadsRound 4 (some .boolean) :: gt) ({ frames := 2, cells := 0, slots := 0, locals := 42 } : Room) (va_Pc [.ref (ao 0), .int a1] (Pr (dC, dI) (KA cs) (wX1 cs ao o_row o_made o_size))) (vp_Si Q) 0 0 (fun _ => False) := by
  refine Met.ofW (cc := cX1_leadsRound) (maxL := 4) (ret := (some .boolean)) (by decide) rfl ?_
  intro p e s m args below meth c s₁ B hml hv
  obtain ⟨rfl, hP, hK, hN⟩ := hv
  have hx := B.exec
  have hb := B.bytes
  have hr := B.returns
  have hts0 := atoms_spec (ws := (.code yX1_leadsRound cX1_leadsRound 4 (some .boolean) :: gt)) B.pre
  have hts : ∀ w ∈ gt, w.before _ s = true := fun w h => hts0 w (List.mem_cons_of_mem _ h)
  have hown : s.vm.findClass RX1 = some m.cls := findClass_of_methodNamed B.named
  have hlocks := B.notSynchronized
  have hl := lv_entry ([.ref (ao 0), .int a1]) (n := 4) (Nat.le_of_ble_eq_true rfl)
  rw [lg_entry_eq]
  generalize (lg_sl ([.ref (ao 0), .int a1]) ++ List.replicate (4 - (lg_sl ([.ref (ao 0), .int a1])).length) Slot.unset).toArray = ls at hl ⊢
  have hl : lv_has ls 4 [(0, .ref (ao 0)), (1, .int a1)] := hl
  have B33 : ∀ (x1 : Int32) (x2 : Int32) (ls : Array Slot), q1_leadsRound_33 o_row o_size Q x1 x2 → lv_has ls 4 [(0, .ref (ao 0)), (1, .int x1), (2, .int x2)] → W p l e ({ frames := 2, cells := 0, slots := 0, locals := 42 } : Room) s m ([.ref (ao 0), .int a1] : List Value).toArray below meth c s.heap [] 0 0 (MQ below (vp_Si Q) ([.ref (ao 0), .int a1] : List Value).toArray s 0 0 (fun _ => False)) (F0 m 33 ls []) := by
    intro x1 x2 ls hq hl
    unfold q1_leadsRound_33 at hq
    refine lv_iload_n hx hb dX1_leadsRound_33 rfl (lv_at hl 2 rfl) ?_
    refine lv_iload_n hx hb dX1_leadsRound_34 rfl (lv_at hl 1 rfl) ?_
    refine lv_icmp_ne (tgt := 42) hx hb dX1_leadsRound_35 (by decide) (fun c6 => ?_) (fun c6 => ?_)
    · have hq := hq.1 c6
      refine lv_iconst (v := (0 : Int32)) hx hb dX1_leadsRound_42 (by decide) ?_
      exact W.zret (ty := .boolean) (v := (0 : Int32)) hx hb hr rfl (fun t ht hW => ⟨(0 : Int32), rfl, hq, ht⟩) (fun q h => absurd h List.not_mem_nil) dX1_leadsRound_43
    · have hq := hq.2 c6
      refine lv_iconst (v := (1 : Int32)) hx hb dX1_leadsRound_38 (by decide) ?_
      refine lv_goto (tgt := 43) hx hb dX1_leadsRound_39 (by decide) ?_
      exact W.zret (ty := .boolean) (v := (1 : Int32)) hx hb hr rfl (fun t ht hW => ⟨(1 : Int32), rfl, hq, ht⟩) (fun q h => absurd h List.not_mem_nil) dX1_leadsRound_43
  have B8 : ∀ (k8 : Nat) (x1 : Int32) (x2 : Int32) (x3 : Int32) (ls : Array Slot), q1_leadsRound_8 o_row o_size Q k8 x1 x2 x3 → lv_has ls 4 [(0, .ref (ao 0)), (1, .int x1), (2, .int x2), (3, .int x3)] → W p l e ({ frames := 2, cells := 0, slots := 0, locals := 42 } : Room) s m ([.ref (ao 0), .int a1] : List Value).toArray below meth c s.heap [] 0 0 (MQ below (vp_Si Q) ([.ref (ao 0), .int a1] : List Value).toArray s 0 0 (fun _ => False)) (F0 m 8 ls []) := by
    intro k8
    induction k8 with
    | zero => intro x1 x2 x3 ls hq; exact False.elim hq
    | succ k8 ih8 =>
      intro x1 x2 x3 ls hq hl
      unfold q1_leadsRound_8 at hq
      refine lv_iload_n hx hb dX1_leadsRound_8 rfl (lv_at hl 3 rfl) ?_
      refine lv_aload_n hx hb dX1_leadsRound_9 rfl (lv_at hl 0 rfl) ?_
      refine va_get (D := (dC, dI)) (ci := 1) (v := .int o_size) (C := RX1) (T := TX1) (N := 3) hx hb hts uwX1 hown hK hP 0 rfl rfl 2 (by decide) (hts _ fl_X1_24) (fun _ h9 => h9) rfl dX1_leadsRound_10 ?_
      refine lv_icmp_ge (tgt := 33) hx hb dX1_leadsRound_13 (by decide) (fun c7 => ?_) (fun c7 => ?_)
      · have hq := hq.1 c7
        exact B33 x1 x2 _ hq (lv_sub hl [0, 1, 2] rfl)
      · have hq := hq.2 c7
        refine lv_iload_n hx hb dX1_leadsRound_16 rfl (lv_at hl 2 rfl) ?_
        refine lv_iload_n hx hb dX1_leadsRound_17 rfl (lv_at hl 1 rfl) ?_
        refine lv_icmp_ge (tgt := 33) hx hb dX1_leadsRound_18 (by decide) (fun c8 => ?_) (fun c8 => ?_)
        · have hq := hq.1 c8
          exact B33 x1 x2 _ hq (lv_sub hl [0, 1, 2] rfl)
        · have hq := hq.2 c8
          refine lv_aload_n hx hb dX1_leadsRound_21 rfl (lv_at hl 0 rfl) ?_
          refine lv_iload_n hx hb dX1_leadsRound_22 rfl (lv_at hl 2 rfl) ?_
          refine roi (runV ⟨hx, hb, hml, hown, hts⟩ wf_X1_follow ml_X1_37 (c1_follow l dC dI cs ao o_row o_made o_size x2 hq) ⟨⟨rfl, rfl⟩, by decide, by decide⟩ (preR hP hK hN) hK hP rfl 0 rfl rfl hl.1 rfl (Nat.le_of_ble_eq_true rfl) dX1_leadsRound_23 ⟨(Nat.le_of_ble_eq_true rfl), (Nat.le_of_ble_eq_true rfl)⟩) (fun r9 hq => ?_)
          refine lv_istore_n (lv' := [(2, .int r9), (0, .ref (ao 0)), (1, .int x1), (3, .int x3)]) hx hb dX1_leadsRound_26 rfl hl (by decide) rfl (fun ls hl => ?_)
          refine lv_iinc (v := (x3 + (1 : Int32))) (lv' := [(3, .int (x3 + (1 : Int32))), (2, .int r9), (0, .ref (ao 0)), (1, .int x1)]) hx hb dX1_leadsRound_27 hl (k := 3) rfl (by rfl) (by decide) rfl (fun ls hl => ?_)
          refine lv_goto (tgt := 8) hx hb dX1_leadsRound_30 (by decide) ?_
          exact ih8 x1 r9 (x3 + (1 : Int32)) _ hq (lv_sub hl [2, 3, 1, 0] rfl)
  unfold q1_leadsRound at hq
  refine lv_aload_n hx hb dX1_leadsRound_0 rfl (lv_at hl 0 rfl) ?_
  refine lv_iload_n hx hb dX1_leadsRound_1 rfl (lv_at hl 1 rfl) ?_
  refine roi (runV ⟨hx, hb, hml, hown, hts⟩ wf_X1_follow ml_X1_37 (c1_follow l dC dI cs ao o_row o_made o_size a1 hq) ⟨⟨rfl, rfl⟩, by decide, by decide⟩ (preR hP hK hN) hK hP rfl 0 rfl rfl hl.1 rfl (Nat.le_of_ble_eq_true rfl) dX1_leadsRound_2 ⟨(Nat.le_of_ble_eq_true rfl), (Nat.le_of_ble_eq_true rfl)⟩) (fun r10 hq => ?_)
  refine lv_istore_n (lv' := [(2, .int r10), (0, .ref (ao 0)), (1, .int a1)]) hx hb dX1_leadsRound_5 rfl hl (by decide) rfl (fun ls hl => ?_)
  refine lv_iconst (v := (0 : Int32)) hx hb dX1_leadsRound_6 (by decide) ?_
  refine lv_istore_n (lv' := [(3, .int (0 : Int32)), (2, .int r10), (0, .ref (ao 0)), (1, .int a1)]) hx hb dX1_leadsRound_7 rfl hl (by decide) rfl (fun ls hl => ?_)
  obtain ⟨kf, hq⟩ := hq
  exact B8 kf a1 r10 (0 : Int32) _ hq (lv_sub hl [2, 3, 1, 0] rfl)
set_option maxHeartbeats 4000000 in
set_option maxRecDepth 100000 in
theorem c1_makeRecords (l : Launch) (dC : Nat → ClassId) (dI : Nat → Nat → Nat) (cs : Nat → ClassId) (ao : Nat → Nat) (sz : Nat) (o_row : Nat → Int32) (o_made : Nat → Int32) (o_size : Int32) {Q : (Nat → Int32) → (Nat → Int32) → Prop} (hq : q1_makeRecords o_size o_row o_made Q) : Met l yX1_makeRecords (.code yX1_makeRecords cX1_makeRecords 5 none :: gt) ({ frames := 3, cells := 0, slots := 0, locals := 65 } : Room) (va_Pc [.ref (ao 0)] (Pw (dC, dI) (KA cs) (wX1 cs ao o_row o_made o_size) sz)) (va_Qv (fun (u : (Nat → Int32) × (Nat → Int32)) => Q u.1 u.2) (Bw (dC, dI) (KA cs) (va_A (wX1 cs ao o_row o_made o_size) sz) (fun u : (Nat → Int32) × (Nat → Int32) => (wX1 cs ao u.1 u.2 o_size))) (va_A (wX1 cs ao o_row o_made o_size) sz)) 0 0 (va_A (wX1 cs ao o_row o_made o_size) sz) := by
  refine Met.ofW (cc := cX1_makeRecords) (maxL := 5) (ret := none) (by decide) rfl ?_
  intro p e s m args below meth c s₁ B hml hv
  obtain ⟨rfl, hsz, hP, hK, hD0, hN⟩ := hv
  have hx := B.exec
  have hb := B.bytes
  have hr := B.returns
  have hts0 := atoms_spec (ws := (.code yX1_makeRecords cX1_makeRecords 5 none :: gt)) B.pre
  have hts : ∀ w ∈ gt, w.before _ s = true := fun w h => hts0 w (List.mem_cons_of_mem _ h)
  have hown : s.vm.findClass RX1 = some m.cls := findClass_of_methodNamed B.named
  have hlocks := B.notSynchronized
  subst hsz
  have hD := hD0.self (sz := s.heap.size)
  generalize hAe : va_A (wX1 cs ao o_row o_made o_size) s.heap.size = A at hD ⊢
  have hA : ∀ q : Nat, s.heap.size ≤ q → A q := fun q h => by rw [← hAe]; exact Or.inr h
  have hS : va_S A s.heap s.heap [] := va_S.rf
  have hl := lv_entry ([.ref (ao 0)]) (n := 5) (Nat.le_of_ble_eq_true rfl)
  rw [lg_entry_eq]
  generalize (lg_sl ([.ref (ao 0)]) ++ List.replicate (5 - (lg_sl ([.ref (ao 0)])).length) Slot.unset).toArray = ls at hl ⊢
  have hl : lv_has ls 5 [(0, .ref (ao 0))] := hl
  have B64 : ∀ (o_row : Nat → Int32) (o_made : Nat → Int32) (H : Heap) (locs : List Loc) (ls : Array Slot), q1_makeRecords_64 o_size Q o_row o_made → va_P (dC, dI) vwCl (wX1 cs ao o_row o_made o_size) H → va_D A (wX1 cs ao o_row o_made o_size) → va_S A s.heap H locs → lv_has ls 5 [(0, .ref (ao 0))] → W p l e ({ frames := 3, cells := 0, slots := 0, locals := 65 } : Room) s m ([.ref (ao 0)] : List Value).toArray below meth c H locs 0 0 (MQ below (va_Qv (fun (u : (Nat → Int32) × (Nat → Int32)) => Q u.1 u.2) (Bw (dC, dI) (KA cs) A (fun u : (Nat → Int32) × (Nat → Int32) => (wX1 cs ao u.1 u.2 o_size))) A) ([.ref (ao 0)] : List Value).toArray s 0 0 A) (F0 m 64 ls []) := by
    intro o_row o_made H locs ls hq hP hD hS hl
    unfold q1_makeRecords_64 at hq
    refine lv_aload_n hx hb dX1_makeRecords_64 rfl (lv_at hl 0 rfl) ?_
    refine swv (runV ⟨hx, hb, hml, hown, hts⟩ wf_X1_keepMade ml_X1_34 (c1_keepMade l dC dI cs ao _ o_row o_made o_size  hq) ⟨⟨rfl, rfl⟩, by decide, by decide⟩ (preW hP hK hN hD) hK hP rfl 0 rfl rfl hl.1 rfl (Nat.le_of_ble_eq_true rfl) dX1_makeRecords_65 ⟨(Nat.le_of_ble_eq_true rfl), (Nat.le_of_ble_eq_true rfl)⟩) hD hS hA (fun  o_row_11 H locs hq hP hD hS => ?_)
    have hP : va_P (dC, dI) vwCl (wX1 cs ao o_row_11 o_made o_size) H := hP
    have hD : va_D A (wX1 cs ao o_row_11 o_made o_size) := hD
    exact W.vret hx hb hr (fun t ht hW => ⟨⟨(o_row_11, o_made), rfl, hq, Bw_mk (by rw [ht]; exact hP) (va_K.moved hW.alike hK) hD⟩, hS.F ht⟩) hS.2.2 dX1_makeRecords_68
  have B4 : ∀ (k4 : Nat) (x1 : Int32) (x2 : Int32) (o_row : Nat → Int32) (o_made : Nat → Int32) (H : Heap) (locs : List Loc) (ls : Array Slot), q1_makeRecords_4 o_size Q k4 x1 x2 o_row o_made → va_P (dC, dI) vwCl (wX1 cs ao o_row o_made o_size) H → va_D A (wX1 cs ao o_row o_made o_size) → va_S A s.heap H locs → lv_has ls 5 [(0, .ref (ao 0)), (1, .int x1), (2, .int x2)] → W p l e ({ frames := 3, cells := 0, slots := 0, locals := 65 } : Room) s m ([.ref (ao 0)] : List Value).toArray below meth c H locs 0 0 (MQ below (va_Qv (fun (u : (Nat → Int32) × (Nat → Int32)) => Q u.1 u.2) (Bw (dC, dI) (KA cs) A (fun u : (Nat → Int32) × (Nat → Int32) => (wX1 cs ao u.1 u.2 o_size))) A) ([.ref (ao 0)] : List Value).toArray s 0 0 A) (F0 m 4 ls []) := by
    intro k4
    induction k4 with
    | zero => intro x1 x2 o_row o_made H locs ls hq; exact False.elim hq
    | succ k4 ih4 =>
      intro x1 x2 o_row o_made H locs ls hq hP hD hS hl
      have B58 : ∀ (x1 : Int32) (x2 : Int32) (o_row : Nat → Int32) (o_made : Nat → Int32) (H : Heap) (locs : List Loc) (ls : Array Slot), q1_makeRecords_58 o_size (fun v0 v1 v2 v3 => q1_makeRecords_4 o_size Q k4 v0 v1 v2 v3) Q x1 x2 o_row o_made → va_P (dC, dI) vwCl (wX1 cs ao o_row o_made o_size) H → va_D A (wX1 cs ao o_row o_made o_size) → va_S A s.heap H locs → lv_has ls 5 [(0, .ref (ao 0)), (1, .int x1), (2, .int x2)] → W p l e ({ frames := 3, cells := 0, slots := 0, locals := 65 } : Room) s m ([.ref (ao 0)] : List Value).toArray below meth c H locs 0 0 (MQ below (va_Qv (fun (u : (Nat → Int32) × (Nat → Int32)) => Q u.1 u.2) (Bw (dC, dI) (KA cs) A (fun u : (Nat → Int32) × (Nat → Int32) => (wX1 cs ao u.1 u.2 o_size))) A) ([.ref (ao 0)] : List Value).toArray s 0 0 A) (F0 m 58 ls []) := by
        intro x1 x2 o_row o_made H locs ls hq hP hD hS hl
        unfold q1_makeRecords_58 at hq
        refine lv_iinc (v := (x2 + (1 : Int32))) (lv' := [(2, .int (x2 + (1 : Int32))), (0, .ref (ao 0)), (1, .int x1)]) hx hb dX1_makeRecords_58 hl (k := 2) rfl (by rfl) (by decide) rfl (fun ls hl => ?_)
        refine lv_goto (tgt := 4) hx hb dX1_makeRecords_61 (by decide) ?_
        exact ih4 x1 (x2 + (1 : Int32)) o_row o_made _ _ _ hq hP hD hS (lv_sub hl [1, 2, 0] rfl)
      have B32 : ∀ (k32 : Nat) (x1 : Int32) (x2 : Int32) (x3 : Int32) (x4 : Int32) (o_row : Nat → Int32) (o_made : Nat → Int32) (H : Heap) (locs : List Loc) (ls : Array Slot), q1_makeRecords_32 o_size (fun v0 v1 v2 v3 => q1_makeRecords_4 o_size Q k4 v0 v1 v2 v3) Q k32 x1 x2 x3 x4 o_row o_made → va_P (dC, dI) vwCl (wX1 cs ao o_row o_made o_size) H → va_D A (wX1 cs ao o_row o_made o_size) → va_S A s.heap H locs → lv_has ls 5 [(0, .ref (ao 0)), (1, .int x1), (2, .int x2), (3, .int x3), (4, .int x4)] → W p l e ({ frames := 3, cells := 0, slots := 0, locals := 65 } : Room) s m ([.ref (ao 0)] : List Value).toArray below meth c H locs 0 0 (MQ below (va_Qv (fun (u : (Nat → Int32) × (Nat → Int32)) => Q u.1 u.2) (Bw (dC, dI) (KA cs) A (fun u : (Nat → Int32) × (Nat → Int32) => (wX1 cs ao u.1 u.2 o_size))) A) ([.ref (ao 0)] : List Value).toArray s 0 0 A) (F0 m 32 ls []) := by
        intro k32
        induction k32 with
        | zero => intro x1 x2 x3 x4 o_row o_made H locs ls hq; exact False.elim hq
        | succ k32 ih32 =>
          intro x1 x2 x3 x4 o_row o_made H locs ls hq hP hD hS hl
          unfold q1_makeRecords_32 at hq
          refine lv_iload hx hb dX1_makeRecords_32 (lv_at hl 4 rfl) ?_
          refine lv_if_le (tgt := 58) hx hb dX1_makeRecords_34 (by decide) (fun c13 => ?_) (fun c13 => ?_)
          · have hq := hq.1 c13
            exact B58 x1 x2 o_row o_made _ _ _ hq hP hD hS (lv_sub hl [0, 1, 2] rfl)
          · have hq := hq.2 c13
            refine lv_aload_n hx hb dX1_makeRecords_37 rfl (lv_at hl 0 rfl) ?_
            refine lv_iload_n hx hb dX1_makeRecords_38 rfl (lv_at hl 1 rfl) ?_
            refine lv_iload_n hx hb dX1_makeRecords_39 rfl (lv_at hl 3 rfl) ?_
            refine swv (runV ⟨hx, hb, hml, hown, hts⟩ wf_X1_makeAt ml_X1_41 (c1_makeAt l dC dI cs ao _ o_row o_made o_size x1 x3 hq) ⟨⟨rfl, rfl⟩, by decide, by decide⟩ (preW hP hK hN hD) hK hP rfl 0 rfl rfl hl.1 rfl (Nat.le_of_ble_eq_true rfl) dX1_makeRecords_40 ⟨(Nat.le_of_ble_eq_true rfl), (Nat.le_of_ble_eq_true rfl)⟩) hD hS hA (fun  o_made_14 H locs hq hP hD hS => ?_)
            have hP : va_P (dC, dI) vwCl (wX1 cs ao o_row o_made_14 o_size) H := hP
            have hD : va_D A (wX1 cs ao o_row o_made_14 o_size) := hD
            refine lv_iinc (v := (x1 + (1 : Int32))) (lv' := [(1, .int (x1 + (1 : Int32))), (0, .ref (ao 0)), (2, .int x2), (3, .int x3), (4, .int x4)]) hx hb dX1_makeRecords_43 hl (k := 1) rfl (by rfl) (by decide) rfl (fun ls hl => ?_)
            refine lv_aload_n hx hb dX1_makeRecords_46 rfl (lv_at hl 1 rfl) ?_
            refine lv_iload_n hx hb dX1_makeRecords_47 rfl (lv_at hl 3 rfl) ?_
            refine roi (runV ⟨hx, hb, hml, hown, hts⟩ wf_X1_follow ml_X1_37 (c1_follow l dC dI cs ao o_row o_made_14 o_size x3 hq) ⟨⟨rfl, rfl⟩, by decide, by decide⟩ (preR hP hK hN) hK hP rfl 0 rfl rfl hl.1 rfl (Nat.le_of_ble_eq_true rfl) dX1_makeRecords_48 ⟨(Nat.le_of_ble_eq_true rfl), (Nat.le_of_ble_eq_true rfl)⟩) (fun r16 hq => ?_)
            refine lv_istore_n (lv' := [(3, .int r16), (1, .int (x1 + (1 : Int32))), (0, .ref (ao 0)), (2, .int x2), (4, .int x4)]) hx hb dX1_makeRecords_51 rfl hl (by decide) rfl (fun ls hl => ?_)
            refine lv_iinc (v := (x4 + (-1 : Int32))) (lv' := [(4, .int (x4 + (-1 : Int32))), (3, .int r16), (1, .int (x1 + (1 : Int32))), (0, .ref (ao 0)), (2, .int x2)]) hx hb dX1_makeRecords_52 hl (k := 4) rfl (by rfl) (by decide) rfl (fun ls hl => ?_)
            refine lv_goto (tgt := 32) hx hb dX1_makeRecords_55 (by decide) ?_
            exact ih32 (x1 + (1 : Int32)) x2 r16 (x4 + (-1 : Int32)) o_row o_made_14 _ _ _ hq hP hD hS (lv_sub hl [3, 2, 4, 1, 0] rfl)
      unfold q1_makeRecords_4 at hq
      refine lv_iload_n hx hb dX1_makeRecords_4 rfl (lv_at hl 2 rfl) ?_
      refine lv_aload_n hx hb dX1_makeRecords_5 rfl (lv_at hl 0 rfl) ?_
      refine va_get (D := (dC, dI)) (ci := 1) (v := .int o_size) (C := RX1) (T := TX1) (N := 3) hx hb hts uwX1 hown hK hP 0 rfl rfl 2 (by decide) (hts _ fl_X1_24) (fun _ h9 => h9) rfl dX1_makeRecords_6 ?_
      refine lv_icmp_ge (tgt := 64) hx hb dX1_makeRecords_9 (by decide) (fun c17 => ?_) (fun c17 => ?_)
      · have hq := hq.1 c17
        exact B64 o_row o_made _ _ _ hq hP hD hS (lv_sub hl [0] rfl)
      · have hq := hq.2 c17
        refine lv_aload_n hx hb dX1_makeRecords_12 rfl (lv_at hl 0 rfl) ?_
        refine lv_iload_n hx hb dX1_makeRecords_13 rfl (lv_at hl 2 rfl) ?_
        refine roi (runV ⟨hx, hb, hml, hown, hts⟩ wf_X1_leadsRound ml_X1_48 (c1_leadsRound l dC dI cs ao o_row o_made o_size x2 hq) ⟨⟨rfl, rfl⟩, by decide, by decide⟩ (preR hP hK hN) hK hP rfl 0 rfl rfl hl.1 rfl (Nat.le_of_ble_eq_true rfl) dX1_makeRecords_14 ⟨(Nat.le_of_ble_eq_true rfl), (Nat.le_of_ble_eq_true rfl)⟩) (fun r18 hq => ?_)
        refine lv_if_ne (tgt := 23) hx hb dX1_makeRecords_17 (by decide) (fun c19 => ?_) (fun c19 => ?_)
        · have hq := hq.1 c19
          refine lv_iload_n hx hb dX1_makeRecords_23 rfl (lv_at hl 2 rfl) ?_
          refine lv_istore_n (lv' := [(3, .int x2), (0, .ref (ao 0)), (1, .int x1), (2, .int x2)]) hx hb dX1_makeRecords_24 rfl hl (by decide) rfl (fun ls hl => ?_)
          refine lv_aload_n hx hb dX1_makeRecords_25 rfl (lv_at hl 1 rfl) ?_
          refine lv_iload_n hx hb dX1_makeRecords_26 rfl (lv_at hl 3 rfl) ?_
          refine roi (runV ⟨hx, hb, hml, hown, hts⟩ wf_X1_roundLength ml_X1_51 (c1_roundLength l dC dI cs ao o_row o_made o_size x2 hq) ⟨⟨rfl, rfl⟩, by decide, by decide⟩ (preR hP hK hN) hK hP rfl 0 rfl rfl hl.1 rfl (Nat.le_of_ble_eq_true rfl) dX1_makeRecords_27 ⟨(Nat.le_of_ble_eq_true rfl), (Nat.le_of_ble_eq_true rfl)⟩) (fun r20 hq => ?_)
          refine lv_istore (lv' := [(4, .int r20), (3, .int x2), (0, .ref (ao 0)), (1, .int x1), (2, .int x2)]) hx hb dX1_makeRecords_30 hl (by decide) rfl (fun ls hl => ?_)
          obtain ⟨kf, hq⟩ := hq
          exact B32 kf x1 x2 x2 r20 o_row o_made _ _ _ hq hP hD hS (lv_sub hl [2, 3, 4, 1, 0] rfl)
        · have hq := hq.2 c19
          refine lv_goto (tgt := 58) hx hb dX1_makeRecords_20 (by decide) ?_
          exact B58 x1 x2 o_row o_made _ _ _ hq hP hD hS (lv_sub hl [0, 1, 2] rfl)
  unfold q1_makeRecords at hq
  refine lv_iconst (v := (0 : Int32)) hx hb dX1_makeRecords_0 (by decide) ?_
  refine lv_istore_n (lv' := [(1, .int (0 : Int32)), (0, .ref (ao 0))]) hx hb dX1_makeRecords_1 rfl hl (by decide) rfl (fun ls hl => ?_)
  refine lv_iconst (v := (0 : Int32)) hx hb dX1_makeRecords_2 (by decide) ?_
  refine lv_istore_n (lv' := [(2, .int (0 : Int32)), (1, .int (0 : Int32)), (0, .ref (ao 0))]) hx hb dX1_makeRecords_3 rfl hl (by decide) rfl (fun ls hl => ?_)
  obtain ⟨kf, hq⟩ := hq
  exact B4 kf (0 : Int32) (0 : Int32) o_row o_made _ _ _ hq hP hD hS (lv_sub hl [2, 1, 0] rfl)
set_option maxHeartbeats 4000000 in
set_option maxRecDepth 100000 in
theorem c1_rounds (l : Launch) (dC : Nat → ClassId) (dI : Nat → Nat → Nat) (cs : Nat → ClassId) (ao : Nat → Nat) (o_row : Nat → Int32) (o_made : Nat → Int32) (o_size : Int32) {Q : Int32 → Prop} (hq : q1_rounds o_row o_size Q) : Met l yX1_rounds (.code yX1_rounds cX1_rounds 3 (some .int) :: gt) ({ frames := 3, cells := 0, slots := 0, locals := 65 } : Room) (va_Pc [.ref (ao 0)] (Pr (dC, dI) (KA cs) (wX1 cs ao o_row o_made o_size))) (vp_Si Q) 0 0 (fun _ => False) := by
  refine Met.ofW (cc := cX1_rounds) (maxL := 3) (ret := (some .int)) (by decide) rfl ?_
  intro p e s m args below meth c s₁ B hml hv
  obtain ⟨rfl, hP, hK, hN⟩ := hv
  have hx := B.exec
  have hb := B.bytes
  have hr := B.returns
  have hts0 := atoms_spec (ws := (.code yX1_rounds cX1_rounds 3 (some .int) :: gt)) B.pre
  have hts : ∀ w ∈ gt, w.before _ s = true := fun w h => hts0 w (List.mem_cons_of_mem _ h)
  have hown : s.vm.findClass RX1 = some m.cls := findClass_of_methodNamed B.named
  have hlocks := B.notSynchronized
  have hl := lv_entry ([.ref (ao 0)]) (n := 3) (Nat.le_of_ble_eq_true rfl)
  rw [lg_entry_eq]
  generalize (lg_sl ([.ref (ao 0)]) ++ List.replicate (3 - (lg_sl ([.ref (ao 0)])).length) Slot.unset).toArray = ls at hl ⊢
  have hl : lv_has ls 3 [(0, .ref (ao 0))] := hl
  have B4 : ∀ (k4 : Nat) (x1 : Int32) (x2 : Int32) (ls : Array Slot), q1_rounds_4 o_row o_size Q k4 x1 x2 → lv_has ls 3 [(0, .ref (ao 0)), (1, .int x1), (2, .int x2)] → W p l e ({ frames := 3, cells := 0, slots := 0, locals := 65 } : Room) s m ([.ref (ao 0)] : List Value).toArray below meth c s.heap [] 0 0 (MQ below (vp_Si Q) ([.ref (ao 0)] : List Value).toArray s 0 0 (fun _ => False)) (F0 m 4 ls []) := by
    intro k4
    induction k4 with
    | zero => intro x1 x2 ls hq; exact False.elim hq
    | succ k4 ih4 =>
      intro x1 x2 ls hq hl
      have B23 : ∀ (x1 : Int32) (x2 : Int32) (ls : Array Slot), q1_rounds_23 o_row o_size (fun v0 v1 => q1_rounds_4 o_row o_size Q k4 v0 v1) Q x1 x2 → lv_has ls 3 [(0, .ref (ao 0)), (1, .int x1), (2, .int x2)] → W p l e ({ frames := 3, cells := 0, slots := 0, locals := 65 } : Room) s m ([.ref (ao 0)] : List Value).toArray below meth c s.heap [] 0 0 (MQ below (vp_Si Q) ([.ref (ao 0)] : List Value).toArray s 0 0 (fun _ => False)) (F0 m 23 ls []) := by
        intro x1 x2 ls hq hl
        unfold q1_rounds_23 at hq
        refine lv_iinc (v := (x2 + (1 : Int32))) (lv' := [(2, .int (x2 + (1 : Int32))), (0, .ref (ao 0)), (1, .int x1)]) hx hb dX1_rounds_23 hl (k := 2) rfl (by rfl) (by decide) rfl (fun ls hl => ?_)
        refine lv_goto (tgt := 4) hx hb dX1_rounds_26 (by decide) ?_
        exact ih4 x1 (x2 + (1 : Int32)) _ hq (lv_sub hl [1, 2, 0] rfl)
      unfold q1_rounds_4 at hq
      refine lv_iload_n hx hb dX1_rounds_4 rfl (lv_at hl 2 rfl) ?_
      refine lv_aload_n hx hb dX1_rounds_5 rfl (lv_at hl 0 rfl) ?_
      refine va_get (D := (dC, dI)) (ci := 1) (v := .int o_size) (C := RX1) (T := TX1) (N := 3) hx hb hts uwX1 hown hK hP 0 rfl rfl 2 (by decide) (hts _ fl_X1_24) (fun _ h9 => h9) rfl dX1_rounds_6 ?_
      refine lv_icmp_ge (tgt := 29) hx hb dX1_rounds_9 (by decide) (fun c4 => ?_) (fun c4 => ?_)
      · have hq := hq.1 c4
        refine lv_iload_n hx hb dX1_rounds_29 rfl (lv_at hl 1 rfl) ?_
        exact W.iret (v := x1) hx hb hr (fun t ht hW => ⟨x1, rfl, hq, ht⟩) (fun q h => absurd h List.not_mem_nil) dX1_rounds_30
      · have hq := hq.2 c4
        refine lv_aload_n hx hb dX1_rounds_12 rfl (lv_at hl 0 rfl) ?_
        refine lv_iload_n hx hb dX1_rounds_13 rfl (lv_at hl 2 rfl) ?_
        refine roi (runV ⟨hx, hb, hml, hown, hts⟩ wf_X1_leadsRound ml_X1_48 (c1_leadsRound l dC dI cs ao o_row o_made o_size x2 hq) ⟨⟨rfl, rfl⟩, by decide, by decide⟩ (preR hP hK hN) hK hP rfl 0 rfl rfl hl.1 rfl (Nat.le_of_ble_eq_true rfl) dX1_rounds_14 ⟨(Nat.le_of_ble_eq_true rfl), (Nat.le_of_ble_eq_true rfl)⟩) (fun r5 hq => ?_)
        refine lv_if_eq (tgt := 23) hx hb dX1_rounds_17 (by decide) (fun c6 => ?_) (fun c6 => ?_)
        · have hq := hq.1 c6
          exact B23 x1 x2 _ hq (lv_sub hl [0, 1, 2] rfl)
        · have hq := hq.2 c6
          refine lv_iinc (v := (x1 + (1 : Int32))) (lv' := [(1, .int (x1 + (1 : Int32))), (0, .ref (ao 0)), (2, .int x2)]) hx hb dX1_rounds_20 hl (k := 1) rfl (by rfl) (by decide) rfl (fun ls hl => ?_)
          exact B23 (x1 + (1 : Int32)) x2 _ hq (lv_sub hl [1, 0, 2] rfl)
  unfold q1_rounds at hq
  refine lv_iconst (v := (0 : Int32)) hx hb dX1_rounds_0 (by decide) ?_
  refine lv_istore_n (lv' := [(1, .int (0 : Int32)), (0, .ref (ao 0))]) hx hb dX1_rounds_1 rfl hl (by decide) rfl (fun ls hl => ?_)
  refine lv_iconst (v := (0 : Int32)) hx hb dX1_rounds_2 (by decide) ?_
  refine lv_istore_n (lv' := [(2, .int (0 : Int32)), (1, .int (0 : Int32)), (0, .ref (ao 0))]) hx hb dX1_rounds_3 rfl hl (by decide) rfl (fun ls hl => ?_)
  obtain ⟨kf, hq⟩ := hq
  exact B4 kf (0 : Int32) (0 : Int32) _ hq (lv_sub hl [2, 1, 0] rfl)
set_option maxHeartbeats 4000000 in
set_option maxRecDepth 100000 in
theorem c1_records (l : Launch) (dC : Nat → ClassId) (dI : Nat → Nat → Nat) (cs : Nat → ClassId) (ao : Nat → Nat) (o_row : Nat → Int32) (o_made : Nat → Int32) (o_size : Int32) {Q : Int32 → Prop} (hq : q1_records o_row o_size Q) : Met l yX1_records (.code yX1_records cX1_records 4 (some .int) :: gt) ({ frames := 0, cells := 0, slots := 0, locals := 0 } : Room) (va_Pc [.ref (ao 0)] (Pr (dC, dI) (KA cs) (wX1 cs ao o_row o_made o_size))) (vp_Si Q) 0 0 (fun _ => False) := by
  refine Met.ofW (cc := cX1_records) (maxL := 4) (ret := (some .int)) (by decide) rfl ?_
  intro p e s m args below meth c s₁ B hml hv
  obtain ⟨rfl, hP, hK, hN⟩ := hv
  have hx := B.exec
  have hb := B.bytes
  have hr := B.returns
  have hts0 := atoms_spec (ws := (.code yX1_records cX1_records 4 (some .int) :: gt)) B.pre
  have hts : ∀ w ∈ gt, w.before _ s = true := fun w h => hts0 w (List.mem_cons_of_mem _ h)
  have hown : s.vm.findClass RX1 = some m.cls := findClass_of_methodNamed B.named
  have hlocks := B.notSynchronized
  have hl := lv_entry ([.ref (ao 0)]) (n := 4) (Nat.le_of_ble_eq_true rfl)
  rw [lg_entry_eq]
  generalize (lg_sl ([.ref (ao 0)]) ++ List.replicate (4 - (lg_sl ([.ref (ao 0)])).length) Slot.unset).toArray = ls at hl ⊢
  have hl : lv_has ls 4 [(0, .ref (ao 0))] := hl
  have B6 : ∀ (k6 : Nat) (x1 : Int32) (x2 : Int32) (x3 : Int32) (ls : Array Slot), q1_records_6 o_row o_size Q k6 x1 x2 x3 → lv_has ls 4 [(0, .ref (ao 0)), (1, .int x1), (2, .int x2), (3, .int x3)] → W p l e ({ frames := 0, cells := 0, slots := 0, locals := 0 } : Room) s m ([.ref (ao 0)] : List Value).toArray below meth c s.heap [] 0 0 (MQ below (vp_Si Q) ([.ref (ao 0)] : List Value).toArray s 0 0 (fun _ => False)) (F0 m 6 ls []) := by
    intro k6
    induction k6 with
    | zero => intro x1 x2 x3 ls hq; exact False.elim hq
    | succ k6 ih6 =>
      intro x1 x2 x3 ls hq hl
      have B34 : ∀ (x1 : Int32) (x2 : Int32) (x3 : Int32) (ls : Array Slot), q1_records_34 o_row o_size (fun v0 v1 v2 => q1_records_6 o_row o_size Q k6 v0 v1 v2) Q x1 x2 x3 → lv_has ls 4 [(0, .ref (ao 0)), (1, .int x1), (2, .int x2), (3, .int x3)] → W p l e ({ frames := 0, cells := 0, slots := 0, locals := 0 } : Room) s m ([.ref (ao 0)] : List Value).toArray below meth c s.heap [] 0 0 (MQ below (vp_Si Q) ([.ref (ao 0)] : List Value).toArray s 0 0 (fun _ => False)) (F0 m 34 ls []) := by
        intro x1 x2 x3 ls hq hl
        unfold q1_records_34 at hq
        refine lv_iinc (v := (x3 + (1 : Int32))) (lv' := [(3, .int (x3 + (1 : Int32))), (0, .ref (ao 0)), (1, .int x1), (2, .int x2)]) hx hb dX1_records_34 hl (k := 3) rfl (by rfl) (by decide) rfl (fun ls hl => ?_)
        refine lv_goto (tgt := 6) hx hb dX1_records_37 (by decide) ?_
        exact ih6 x1 x2 (x3 + (1 : Int32)) _ hq (lv_sub hl [1, 2, 3, 0] rfl)
      unfold q1_records_6 at hq
      refine lv_iload_n hx hb dX1_records_6 rfl (lv_at hl 3 rfl) ?_
      refine lv_aload_n hx hb dX1_records_7 rfl (lv_at hl 0 rfl) ?_
      refine va_get (D := (dC, dI)) (ci := 1) (v := .int o_size) (C := RX1) (T := TX1) (N := 3) hx hb hts uwX1 hown hK hP 0 rfl rfl 2 (by decide) (hts _ fl_X1_24) (fun _ h9 => h9) rfl dX1_records_8 ?_
      refine lv_icmp_ge (tgt := 40) hx hb dX1_records_11 (by decide) (fun c5 => ?_) (fun c5 => ?_)
      · have hq := hq.1 c5
        refine lv_iload_n hx hb dX1_records_40 rfl (lv_at hl 1 rfl) ?_
        exact W.iret (v := x1) hx hb hr (fun t ht hW => ⟨x1, rfl, hq, ht⟩) (fun q h => absurd h List.not_mem_nil) dX1_records_41
      · have hq := hq.2 c5
        refine lv_aload_n hx hb dX1_records_14 rfl (lv_at hl 0 rfl) ?_
        refine va_get (D := (dC, dI)) (ci := 1) (v := .ref (ao 1)) (C := RX1) (T := TX1) (N := 3) hx hb hts uwX1 hown hK hP 0 rfl rfl 0 (by decide) (hts _ fl_X1_9) (fun _ h9 => h9) rfl dX1_records_15 ?_
        refine lv_iload_n hx hb dX1_records_18 rfl (lv_at hl 3 rfl) ?_
        obtain ⟨i6, hq⟩ := hq
        refine va_iald hx hb hK hP 1 0 rfl rfl i6 dX1_records_19 ?_
        refine lv_iload_n hx hb dX1_records_20 rfl (lv_at hl 2 rfl) ?_
        refine lv_icmp_le (tgt := 34) hx hb dX1_records_21 (by decide) (fun c7 => ?_) (fun c7 => ?_)
        · have hq := hq.1 c7
          exact B34 x1 x2 x3 _ hq (lv_sub hl [0, 1, 2, 3] rfl)
        · have hq := hq.2 c7
          refine lv_aload_n hx hb dX1_records_24 rfl (lv_at hl 0 rfl) ?_
          refine va_get (D := (dC, dI)) (ci := 1) (v := .ref (ao 1)) (C := RX1) (T := TX1) (N := 3) hx hb hts uwX1 hown hK hP 0 rfl rfl 0 (by decide) (hts _ fl_X1_9) (fun _ h9 => h9) rfl dX1_records_25 ?_
          refine lv_iload_n hx hb dX1_records_28 rfl (lv_at hl 3 rfl) ?_
          obtain ⟨i8, hq⟩ := hq
          refine va_iald hx hb hK hP 1 0 rfl rfl i8 dX1_records_29 ?_
          refine lv_istore_n (lv' := [(2, .int (o_row x3.toNatClampNeg)), (0, .ref (ao 0)), (1, .int x1), (3, .int x3)]) hx hb dX1_records_30 rfl hl (by decide) rfl (fun ls hl => ?_)
          refine lv_iinc (v := (x1 + (1 : Int32))) (lv' := [(1, .int (x1 + (1 : Int32))), (2, .int (o_row x3.toNatClampNeg)), (0, .ref (ao 0)), (3, .int x3)]) hx hb dX1_records_31 hl (k := 2) rfl (by rfl) (by decide) rfl (fun ls hl => ?_)
          exact B34 (x1 + (1 : Int32)) (o_row x3.toNatClampNeg) x3 _ hq (lv_sub hl [2, 0, 1, 3] rfl)
  unfold q1_records at hq
  refine lv_iconst (v := (0 : Int32)) hx hb dX1_records_0 (by decide) ?_
  refine lv_istore_n (lv' := [(1, .int (0 : Int32)), (0, .ref (ao 0))]) hx hb dX1_records_1 rfl hl (by decide) rfl (fun ls hl => ?_)
  refine lv_iconst (v := (-1 : Int32)) hx hb dX1_records_2 (by decide) ?_
  refine lv_istore_n (lv' := [(2, .int (-1 : Int32)), (1, .int (0 : Int32)), (0, .ref (ao 0))]) hx hb dX1_records_3 rfl hl (by decide) rfl (fun ls hl => ?_)
  refine lv_iconst (v := (0 : Int32)) hx hb dX1_records_4 (by decide) ?_
  refine lv_istore_n (lv' := [(3, .int (0 : Int32)), (2, .int (-1 : Int32)), (1, .int (0 : Int32)), (0, .ref (ao 0))]) hx hb dX1_records_5 rfl hl (by decide) rfl (fun ls hl => ?_)
  obtain ⟨kf, hq⟩ := hq
  exact B6 kf (0 : Int32) (-1 : Int32) (0 : Int32) _ hq (lv_sub hl [3, 2, 1, 0] rfl)
set_option maxHeartbeats 4000000 in
set_option maxRecDepth 100000 in
theorem c1_rises (l : Launch) (dC : Nat → ClassId) (dI : Nat → Nat → Nat) (cs : Nat → ClassId) (ao : Nat → Nat) (o_row : Nat → Int32) (o_made : Nat → Int32) (o_size : Int32) {Q : Int32 → Prop} (hq : q1_rises o_row o_size Q) : Met l yX1_rises (.code yX1_rises cX1_rises 3 (some .int) :: gt) ({ frames := 0, cells := 0, slots := 0, locals := 0 } : Room) (va_Pc [.ref (ao 0)] (Pr (dC, dI) (KA cs) (wX1 cs ao o_row o_made o_size))) (vp_Si Q) 0 0 (fun _ => False) := by
  refine Met.ofW (cc := cX1_rises) (maxL := 3) (ret := (some .int)) (by decide) rfl ?_
  intro p e s m args below meth c s₁ B hml hv
  obtain ⟨rfl, hP, hK, hN⟩ := hv
  have hx := B.exec
  have hb := B.bytes
  have hr := B.returns
  have hts0 := atoms_spec (ws := (.code yX1_rises cX1_rises 3 (some .int) :: gt)) B.pre
  have hts : ∀ w ∈ gt, w.before _ s = true := fun w h => hts0 w (List.mem_cons_of_mem _ h)
  have hown : s.vm.findClass RX1 = some m.cls := findClass_of_methodNamed B.named
  have hlocks := B.notSynchronized
  have hl := lv_entry ([.ref (ao 0)]) (n := 3) (Nat.le_of_ble_eq_true rfl)
  rw [lg_entry_eq]
  generalize (lg_sl ([.ref (ao 0)]) ++ List.replicate (3 - (lg_sl ([.ref (ao 0)])).length) Slot.unset).toArray = ls at hl ⊢
  have hl : lv_has ls 3 [(0, .ref (ao 0))] := hl
  have B4 : ∀ (k4 : Nat) (x1 : Int32) (x2 : Int32) (ls : Array Slot), q1_rises_4 o_row o_size Q k4 x1 x2 → lv_has ls 3 [(0, .ref (ao 0)), (1, .int x1), (2, .int x2)] → W p l e ({ frames := 0, cells := 0, slots := 0, locals := 0 } : Room) s m ([.ref (ao 0)] : List Value).toArray below meth c s.heap [] 0 0 (MQ below (vp_Si Q) ([.ref (ao 0)] : List Value).toArray s 0 0 (fun _ => False)) (F0 m 4 ls []) := by
    intro k4
    induction k4 with
    | zero => intro x1 x2 ls hq; exact False.elim hq
    | succ k4 ih4 =>
      intro x1 x2 ls hq hl
      have B34 : ∀ (x1 : Int32) (x2 : Int32) (ls : Array Slot), q1_rises_34 o_row o_size (fun v0 v1 => q1_rises_4 o_row o_size Q k4 v0 v1) Q x1 x2 → lv_has ls 3 [(0, .ref (ao 0)), (1, .int x1), (2, .int x2)] → W p l e ({ frames := 0, cells := 0, slots := 0, locals := 0 } : Room) s m ([.ref (ao 0)] : List Value).toArray below meth c s.heap [] 0 0 (MQ below (vp_Si Q) ([.ref (ao 0)] : List Value).toArray s 0 0 (fun _ => False)) (F0 m 34 ls []) := by
        intro x1 x2 ls hq hl
        unfold q1_rises_34 at hq
        refine lv_iinc (v := (x2 + (1 : Int32))) (lv' := [(2, .int (x2 + (1 : Int32))), (0, .ref (ao 0)), (1, .int x1)]) hx hb dX1_rises_34 hl (k := 2) rfl (by rfl) (by decide) rfl (fun ls hl => ?_)
        refine lv_goto (tgt := 4) hx hb dX1_rises_37 (by decide) ?_
        exact ih4 x1 (x2 + (1 : Int32)) _ hq (lv_sub hl [1, 2, 0] rfl)
      unfold q1_rises_4 at hq
      refine lv_iload_n hx hb dX1_rises_4 rfl (lv_at hl 2 rfl) ?_
      refine lv_iconst (v := (1 : Int32)) hx hb dX1_rises_5 (by decide) ?_
      refine lv_iadd hx hb dX1_rises_6 ?_
      refine lv_aload_n hx hb dX1_rises_7 rfl (lv_at hl 0 rfl) ?_
      refine va_get (D := (dC, dI)) (ci := 1) (v := .int o_size) (C := RX1) (T := TX1) (N := 3) hx hb hts uwX1 hown hK hP 0 rfl rfl 2 (by decide) (hts _ fl_X1_24) (fun _ h9 => h9) rfl dX1_rises_8 ?_
      refine lv_icmp_ge (tgt := 40) hx hb dX1_rises_11 (by decide) (fun c5 => ?_) (fun c5 => ?_)
      · have hq := hq.1 c5
        refine lv_iload_n hx hb dX1_rises_40 rfl (lv_at hl 1 rfl) ?_
        exact W.iret (v := x1) hx hb hr (fun t ht hW => ⟨x1, rfl, hq, ht⟩) (fun q h => absurd h List.not_mem_nil) dX1_rises_41
      · have hq := hq.2 c5
        refine lv_aload_n hx hb dX1_rises_14 rfl (lv_at hl 0 rfl) ?_
        refine va_get (D := (dC, dI)) (ci := 1) (v := .ref (ao 1)) (C := RX1) (T := TX1) (N := 3) hx hb hts uwX1 hown hK hP 0 rfl rfl 0 (by decide) (hts _ fl_X1_9) (fun _ h9 => h9) rfl dX1_rises_15 ?_
        refine lv_iload_n hx hb dX1_rises_18 rfl (lv_at hl 2 rfl) ?_
        obtain ⟨i6, hq⟩ := hq
        refine va_iald hx hb hK hP 1 0 rfl rfl i6 dX1_rises_19 ?_
        refine lv_aload_n hx hb dX1_rises_20 rfl (lv_at hl 0 rfl) ?_
        refine va_get (D := (dC, dI)) (ci := 1) (v := .ref (ao 1)) (C := RX1) (T := TX1) (N := 3) hx hb hts uwX1 hown hK hP 0 rfl rfl 0 (by decide) (hts _ fl_X1_9) (fun _ h9 => h9) rfl dX1_rises_21 ?_
        refine lv_iload_n hx hb dX1_rises_24 rfl (lv_at hl 2 rfl) ?_
        refine lv_iconst (v := (1 : Int32)) hx hb dX1_rises_25 (by decide) ?_
        refine lv_iadd hx hb dX1_rises_26 ?_
        obtain ⟨i7, hq⟩ := hq
        refine va_iald hx hb hK hP 1 0 rfl rfl i7 dX1_rises_27 ?_
        refine lv_icmp_ge (tgt := 34) hx hb dX1_rises_28 (by decide) (fun c8 => ?_) (fun c8 => ?_)
        · have hq := hq.1 c8
          exact B34 x1 x2 _ hq (lv_sub hl [0, 1, 2] rfl)
        · have hq := hq.2 c8
          refine lv_iinc (v := (x1 + (1 : Int32))) (lv' := [(1, .int (x1 + (1 : Int32))), (0, .ref (ao 0)), (2, .int x2)]) hx hb dX1_rises_31 hl (k := 1) rfl (by rfl) (by decide) rfl (fun ls hl => ?_)
          exact B34 (x1 + (1 : Int32)) x2 _ hq (lv_sub hl [1, 0, 2] rfl)
  unfold q1_rises at hq
  refine lv_iconst (v := (0 : Int32)) hx hb dX1_rises_0 (by decide) ?_
  refine lv_istore_n (lv' := [(1, .int (0 : Int32)), (0, .ref (ao 0))]) hx hb dX1_rises_1 rfl hl (by decide) rfl (fun ls hl => ?_)
  refine lv_iconst (v := (0 : Int32)) hx hb dX1_rises_2 (by decide) ?_
  refine lv_istore_n (lv' := [(2, .int (0 : Int32)), (1, .int (0 : Int32)), (0, .ref (ao 0))]) hx hb dX1_rises_3 rfl hl (by decide) rfl (fun ls hl => ?_)
  obtain ⟨kf, hq⟩ := hq
  exact B4 kf (0 : Int32) (0 : Int32) _ hq (lv_sub hl [2, 1, 0] rfl)
set_option maxHeartbeats 4000000 in
set_option maxRecDepth 100000 in
theorem c1_still (l : Launch) (dC : Nat → ClassId) (dI : Nat → Nat → Nat) (cs : Nat → ClassId) (ao : Nat → Nat) (o_row : Nat → Int32) (o_made : Nat → Int32) (o_size : Int32) {Q : Int32 → Prop} (hq : q1_still o_row o_size Q) : Met l yX1_still (.code yX1_still cX1_still 3 (some .int) :: gt) ({ frames := 0, cells := 0, slots := 0, locals := 0 } : Room) (va_Pc [.ref (ao 0)] (Pr (dC, dI) (KA cs) (wX1 cs ao o_row o_made o_size))) (vp_Si Q) 0 0 (fun _ => False) := by
  refine Met.ofW (cc := cX1_still) (maxL := 3) (ret := (some .int)) (by decide) rfl ?_
  intro p e s m args below meth c s₁ B hml hv
  obtain ⟨rfl, hP, hK, hN⟩ := hv
  have hx := B.exec
  have hb := B.bytes
  have hr := B.returns
  have hts0 := atoms_spec (ws := (.code yX1_still cX1_still 3 (some .int) :: gt)) B.pre
  have hts : ∀ w ∈ gt, w.before _ s = true := fun w h => hts0 w (List.mem_cons_of_mem _ h)
  have hown : s.vm.findClass RX1 = some m.cls := findClass_of_methodNamed B.named
  have hlocks := B.notSynchronized
  have hl := lv_entry ([.ref (ao 0)]) (n := 3) (Nat.le_of_ble_eq_true rfl)
  rw [lg_entry_eq]
  generalize (lg_sl ([.ref (ao 0)]) ++ List.replicate (3 - (lg_sl ([.ref (ao 0)])).length) Slot.unset).toArray = ls at hl ⊢
  have hl : lv_has ls 3 [(0, .ref (ao 0))] := hl
  have B4 : ∀ (k4 : Nat) (x1 : Int32) (x2 : Int32) (ls : Array Slot), q1_still_4 o_row o_size Q k4 x1 x2 → lv_has ls 3 [(0, .ref (ao 0)), (1, .int x1), (2, .int x2)] → W p l e ({ frames := 0, cells := 0, slots := 0, locals := 0 } : Room) s m ([.ref (ao 0)] : List Value).toArray below meth c s.heap [] 0 0 (MQ below (vp_Si Q) ([.ref (ao 0)] : List Value).toArray s 0 0 (fun _ => False)) (F0 m 4 ls []) := by
    intro k4
    induction k4 with
    | zero => intro x1 x2 ls hq; exact False.elim hq
    | succ k4 ih4 =>
      intro x1 x2 ls hq hl
      have B25 : ∀ (x1 : Int32) (x2 : Int32) (ls : Array Slot), q1_still_25 o_row o_size (fun v0 v1 => q1_still_4 o_row o_size Q k4 v0 v1) Q x1 x2 → lv_has ls 3 [(0, .ref (ao 0)), (1, .int x1), (2, .int x2)] → W p l e ({ frames := 0, cells := 0, slots := 0, locals := 0 } : Room) s m ([.ref (ao 0)] : List Value).toArray below meth c s.heap [] 0 0 (MQ below (vp_Si Q) ([.ref (ao 0)] : List Value).toArray s 0 0 (fun _ => False)) (F0 m 25 ls []) := by
        intro x1 x2 ls hq hl
        unfold q1_still_25 at hq
        refine lv_iinc (v := (x2 + (1 : Int32))) (lv' := [(2, .int (x2 + (1 : Int32))), (0, .ref (ao 0)), (1, .int x1)]) hx hb dX1_still_25 hl (k := 2) rfl (by rfl) (by decide) rfl (fun ls hl => ?_)
        refine lv_goto (tgt := 4) hx hb dX1_still_28 (by decide) ?_
        exact ih4 x1 (x2 + (1 : Int32)) _ hq (lv_sub hl [1, 2, 0] rfl)
      unfold q1_still_4 at hq
      refine lv_iload_n hx hb dX1_still_4 rfl (lv_at hl 2 rfl) ?_
      refine lv_aload_n hx hb dX1_still_5 rfl (lv_at hl 0 rfl) ?_
      refine va_get (D := (dC, dI)) (ci := 1) (v := .int o_size) (C := RX1) (T := TX1) (N := 3) hx hb hts uwX1 hown hK hP 0 rfl rfl 2 (by decide) (hts _ fl_X1_24) (fun _ h9 => h9) rfl dX1_still_6 ?_
      refine lv_icmp_ge (tgt := 31) hx hb dX1_still_9 (by decide) (fun c4 => ?_) (fun c4 => ?_)
      · have hq := hq.1 c4
        refine lv_iload_n hx hb dX1_still_31 rfl (lv_at hl 1 rfl) ?_
        exact W.iret (v := x1) hx hb hr (fun t ht hW => ⟨x1, rfl, hq, ht⟩) (fun q h => absurd h List.not_mem_nil) dX1_still_32
      · have hq := hq.2 c4
        refine lv_aload_n hx hb dX1_still_12 rfl (lv_at hl 0 rfl) ?_
        refine va_get (D := (dC, dI)) (ci := 1) (v := .ref (ao 1)) (C := RX1) (T := TX1) (N := 3) hx hb hts uwX1 hown hK hP 0 rfl rfl 0 (by decide) (hts _ fl_X1_9) (fun _ h9 => h9) rfl dX1_still_13 ?_
        refine lv_iload_n hx hb dX1_still_16 rfl (lv_at hl 2 rfl) ?_
        obtain ⟨i5, hq⟩ := hq
        refine va_iald hx hb hK hP 1 0 rfl rfl i5 dX1_still_17 ?_
        refine lv_iload_n hx hb dX1_still_18 rfl (lv_at hl 2 rfl) ?_
        refine lv_icmp_ne (tgt := 25) hx hb dX1_still_19 (by decide) (fun c6 => ?_) (fun c6 => ?_)
        · have hq := hq.1 c6
          exact B25 x1 x2 _ hq (lv_sub hl [0, 1, 2] rfl)
        · have hq := hq.2 c6
          refine lv_iinc (v := (x1 + (1 : Int32))) (lv' := [(1, .int (x1 + (1 : Int32))), (0, .ref (ao 0)), (2, .int x2)]) hx hb dX1_still_22 hl (k := 1) rfl (by rfl) (by decide) rfl (fun ls hl => ?_)
          exact B25 (x1 + (1 : Int32)) x2 _ hq (lv_sub hl [1, 0, 2] rfl)
  unfold q1_still at hq
  refine lv_iconst (v := (0 : Int32)) hx hb dX1_still_0 (by decide) ?_
  refine lv_istore_n (lv' := [(1, .int (0 : Int32)), (0, .ref (ao 0))]) hx hb dX1_still_1 rfl hl (by decide) rfl (fun ls hl => ?_)
  refine lv_iconst (v := (0 : Int32)) hx hb dX1_still_2 (by decide) ?_
  refine lv_istore_n (lv' := [(2, .int (0 : Int32)), (1, .int (0 : Int32)), (0, .ref (ao 0))]) hx hb dX1_still_3 rfl hl (by decide) rfl (fun ls hl => ?_)
  obtain ⟨kf, hq⟩ := hq
  exact B4 kf (0 : Int32) (0 : Int32) _ hq (lv_sub hl [2, 1, 0] rfl)
set_option maxHeartbeats 4000000 in
set_option maxRecDepth 100000 in
theorem c1_longestRound (l : Launch) (dC : Nat → ClassId) (dI : Nat → Nat → Nat) (cs : Nat → ClassId) (ao : Nat → Nat) (o_row : Nat → Int32) (o_made : Nat → Int32) (o_size : Int32) {Q : Int32 → Prop} (hq : q1_longestRound o_row o_size Q) : Met l yX1_longestRound (.code yX1_longestRound cX1_longestRound 3 (some .int) :: gt) ({ frames := 3, cells := 0, slots := 0, locals := 65 } : Room) (va_Pc [.ref (ao 0)] (Pr (dC, dI) (KA cs) (wX1 cs ao o_row o_made o_size))) (vp_Si Q) 0 0 (fun _ => False) := by
  refine Met.ofW (cc := cX1_longestRound) (maxL := 3) (ret := (some .int)) (by decide) rfl ?_
  intro p e s m args below meth c s₁ B hml hv
  obtain ⟨rfl, hP, hK, hN⟩ := hv
  have hx := B.exec
  have hb := B.bytes
  have hr := B.returns
  have hts0 := atoms_spec (ws := (.code yX1_longestRound cX1_longestRound 3 (some .int) :: gt)) B.pre
  have hts : ∀ w ∈ gt, w.before _ s = true := fun w h => hts0 w (List.mem_cons_of_mem _ h)
  have hown : s.vm.findClass RX1 = some m.cls := findClass_of_methodNamed B.named
  have hlocks := B.notSynchronized
  have hl := lv_entry ([.ref (ao 0)]) (n := 3) (Nat.le_of_ble_eq_true rfl)
  rw [lg_entry_eq]
  generalize (lg_sl ([.ref (ao 0)]) ++ List.replicate (3 - (lg_sl ([.ref (ao 0)])).length) Slot.unset).toArray = ls at hl ⊢
  have hl : lv_has ls 3 [(0, .ref (ao 0))] := hl
  have B4 : ∀ (k4 : Nat) (x1 : Int32) (x2 : Int32) (ls : Array Slot), q1_longestRound_4 o_row o_size Q k4 x1 x2 → lv_has ls 3 [(0, .ref (ao 0)), (1, .int x1), (2, .int x2)] → W p l e ({ frames := 3, cells := 0, slots := 0, locals := 65 } : Room) s m ([.ref (ao 0)] : List Value).toArray below meth c s.heap [] 0 0 (MQ below (vp_Si Q) ([.ref (ao 0)] : List Value).toArray s 0 0 (fun _ => False)) (F0 m 4 ls []) := by
    intro k4
    induction k4 with
    | zero => intro x1 x2 ls hq; exact False.elim hq
    | succ k4 ih4 =>
      intro x1 x2 ls hq hl
      unfold q1_longestRound_4 at hq
      refine lv_iload_n hx hb dX1_longestRound_4 rfl (lv_at hl 2 rfl) ?_
      refine lv_aload_n hx hb dX1_longestRound_5 rfl (lv_at hl 0 rfl) ?_
      refine va_get (D := (dC, dI)) (ci := 1) (v := .int o_size) (C := RX1) (T := TX1) (N := 3) hx hb hts uwX1 hown hK hP 0 rfl rfl 2 (by decide) (hts _ fl_X1_24) (fun _ h9 => h9) rfl dX1_longestRound_6 ?_
      refine lv_icmp_ge (tgt := 28) hx hb dX1_longestRound_9 (by decide) (fun c3 => ?_) (fun c3 => ?_)
      · have hq := hq.1 c3
        refine lv_iload_n hx hb dX1_longestRound_28 rfl (lv_at hl 1 rfl) ?_
        exact W.iret (v := x1) hx hb hr (fun t ht hW => ⟨x1, rfl, hq, ht⟩) (fun q h => absurd h List.not_mem_nil) dX1_longestRound_29
      · have hq := hq.2 c3
        refine lv_iload_n hx hb dX1_longestRound_12 rfl (lv_at hl 1 rfl) ?_
        refine lv_aload_n hx hb dX1_longestRound_13 rfl (lv_at hl 0 rfl) ?_
        refine lv_iload_n hx hb dX1_longestRound_14 rfl (lv_at hl 2 rfl) ?_
        refine roi (runV ⟨hx, hb, hml, hown, hts⟩ wf_X1_roundLength ml_X1_51 (c1_roundLength l dC dI cs ao o_row o_made o_size x2 hq) ⟨⟨rfl, rfl⟩, by decide, by decide⟩ (preR hP hK hN) hK hP rfl 0 rfl rfl hl.1 rfl (Nat.le_of_ble_eq_true rfl) dX1_longestRound_15 ⟨(Nat.le_of_ble_eq_true rfl), (Nat.le_of_ble_eq_true rfl)⟩) (fun r4 hq => ?_)
        refine va_mmax hx hb (hml.trans hl.1.symm) hown (hts _ ml_X1_45) (hts _ sm_J9_max) (hts _ in_J9) (hts _ cw_J9_max) (Nat.le_of_ble_eq_true rfl) (Nat.le_of_ble_eq_true rfl) (Nat.le_of_ble_eq_true rfl) (Nat.le_of_ble_eq_true rfl) dX1_longestRound_18 ?_
        refine lv_istore_n (lv' := [(1, .int (if x1 < r4 then r4 else x1)), (0, .ref (ao 0)), (2, .int x2)]) hx hb dX1_longestRound_21 rfl hl (by decide) rfl (fun ls hl => ?_)
        refine lv_iinc (v := (x2 + (1 : Int32))) (lv' := [(2, .int (x2 + (1 : Int32))), (1, .int (if x1 < r4 then r4 else x1)), (0, .ref (ao 0))]) hx hb dX1_longestRound_22 hl (k := 2) rfl (by rfl) (by decide) rfl (fun ls hl => ?_)
        refine lv_goto (tgt := 4) hx hb dX1_longestRound_25 (by decide) ?_
        exact ih4 (if x1 < r4 then r4 else x1) (x2 + (1 : Int32)) _ hq (lv_sub hl [2, 1, 0] rfl)
  unfold q1_longestRound at hq
  refine lv_iconst (v := (0 : Int32)) hx hb dX1_longestRound_0 (by decide) ?_
  refine lv_istore_n (lv' := [(1, .int (0 : Int32)), (0, .ref (ao 0))]) hx hb dX1_longestRound_1 rfl hl (by decide) rfl (fun ls hl => ?_)
  refine lv_iconst (v := (0 : Int32)) hx hb dX1_longestRound_2 (by decide) ?_
  refine lv_istore_n (lv' := [(2, .int (0 : Int32)), (1, .int (0 : Int32)), (0, .ref (ao 0))]) hx hb dX1_longestRound_3 rfl hl (by decide) rfl (fun ls hl => ?_)
  obtain ⟨kf, hq⟩ := hq
  exact B4 kf (0 : Int32) (0 : Int32) _ hq (lv_sub hl [2, 1, 0] rfl)
set_option maxHeartbeats 4000000 in
set_option maxRecDepth 100000 in
theorem c1_pairsOut (l : Launch) (dC : Nat → ClassId) (dI : Nat → Nat → Nat) (cs : Nat → ClassId) (ao : Nat → Nat) (o_row : Nat → Int32) (o_made : Nat → Int32) (o_size : Int32) {Q : Int32 → Prop} (hq : q1_pairsOut o_row o_size Q) : Met l yX1_pairsOut (.code yX1_pairsOut cX1_pairsOut 4 (some .int) :: gt) ({ frames := 0, cells := 0, slots := 0, locals := 0 } : Room) (va_Pc [.ref (ao 0)] (Pr (dC, dI) (KA cs) (wX1 cs ao o_row o_made o_size))) (vp_Si Q) 0 0 (fun _ => False) := by
  refine Met.ofW (cc := cX1_pairsOut) (maxL := 4) (ret := (some .int)) (by decide) rfl ?_
  intro p e s m args below meth c s₁ B hml hv
  obtain ⟨rfl, hP, hK, hN⟩ := hv
  have hx := B.exec
  have hb := B.bytes
  have hr := B.returns
  have hts0 := atoms_spec (ws := (.code yX1_pairsOut cX1_pairsOut 4 (some .int) :: gt)) B.pre
  have hts : ∀ w ∈ gt, w.before _ s = true := fun w h => hts0 w (List.mem_cons_of_mem _ h)
  have hown : s.vm.findClass RX1 = some m.cls := findClass_of_methodNamed B.named
  have hlocks := B.notSynchronized
  have hl := lv_entry ([.ref (ao 0)]) (n := 4) (Nat.le_of_ble_eq_true rfl)
  rw [lg_entry_eq]
  generalize (lg_sl ([.ref (ao 0)]) ++ List.replicate (4 - (lg_sl ([.ref (ao 0)])).length) Slot.unset).toArray = ls at hl ⊢
  have hl : lv_has ls 4 [(0, .ref (ao 0))] := hl
  have B4 : ∀ (k4 : Nat) (x1 : Int32) (x2 : Int32) (ls : Array Slot), q1_pairsOut_4 o_row o_size Q k4 x1 x2 → lv_has ls 4 [(0, .ref (ao 0)), (1, .int x1), (2, .int x2)] → W p l e ({ frames := 0, cells := 0, slots := 0, locals := 0 } : Room) s m ([.ref (ao 0)] : List Value).toArray below meth c s.heap [] 0 0 (MQ below (vp_Si Q) ([.ref (ao 0)] : List Value).toArray s 0 0 (fun _ => False)) (F0 m 4 ls []) := by
    intro k4
    induction k4 with
    | zero => intro x1 x2 ls hq; exact False.elim hq
    | succ k4 ih4 =>
      intro x1 x2 ls hq hl
      have B43 : ∀ (x1 : Int32) (x2 : Int32) (ls : Array Slot), q1_pairsOut_43 o_row o_size (fun v0 v1 => q1_pairsOut_4 o_row o_size Q k4 v0 v1) Q x1 x2 → lv_has ls 4 [(0, .ref (ao 0)), (1, .int x1), (2, .int x2)] → W p l e ({ frames := 0, cells := 0, slots := 0, locals := 0 } : Room) s m ([.ref (ao 0)] : List Value).toArray below meth c s.heap [] 0 0 (MQ below (vp_Si Q) ([.ref (ao 0)] : List Value).toArray s 0 0 (fun _ => False)) (F0 m 43 ls []) := by
        intro x1 x2 ls hq hl
        unfold q1_pairsOut_43 at hq
        refine lv_iinc (v := (x2 + (1 : Int32))) (lv' := [(2, .int (x2 + (1 : Int32))), (0, .ref (ao 0)), (1, .int x1)]) hx hb dX1_pairsOut_43 hl (k := 2) rfl (by rfl) (by decide) rfl (fun ls hl => ?_)
        refine lv_goto (tgt := 4) hx hb dX1_pairsOut_46 (by decide) ?_
        exact ih4 x1 (x2 + (1 : Int32)) _ hq (lv_sub hl [1, 2, 0] rfl)
      have B14 : ∀ (k14 : Nat) (x1 : Int32) (x2 : Int32) (x3 : Int32) (ls : Array Slot), q1_pairsOut_14 o_row o_size (fun v0 v1 => q1_pairsOut_4 o_row o_size Q k4 v0 v1) Q k14 x1 x2 x3 → lv_has ls 4 [(0, .ref (ao 0)), (1, .int x1), (2, .int x2), (3, .int x3)] → W p l e ({ frames := 0, cells := 0, slots := 0, locals := 0 } : Room) s m ([.ref (ao 0)] : List Value).toArray below meth c s.heap [] 0 0 (MQ below (vp_Si Q) ([.ref (ao 0)] : List Value).toArray s 0 0 (fun _ => False)) (F0 m 14 ls []) := by
        intro k14
        induction k14 with
        | zero => intro x1 x2 x3 ls hq; exact False.elim hq
        | succ k14 ih14 =>
          intro x1 x2 x3 ls hq hl
          have B37 : ∀ (x1 : Int32) (x2 : Int32) (x3 : Int32) (ls : Array Slot), q1_pairsOut_37 o_row o_size (fun v0 v1 => q1_pairsOut_4 o_row o_size Q k4 v0 v1) (fun v0 v1 v2 => q1_pairsOut_14 o_row o_size (fun v0 v1 => q1_pairsOut_4 o_row o_size Q k4 v0 v1) Q k14 v0 v1 v2) Q x1 x2 x3 → lv_has ls 4 [(0, .ref (ao 0)), (1, .int x1), (2, .int x2), (3, .int x3)] → W p l e ({ frames := 0, cells := 0, slots := 0, locals := 0 } : Room) s m ([.ref (ao 0)] : List Value).toArray below meth c s.heap [] 0 0 (MQ below (vp_Si Q) ([.ref (ao 0)] : List Value).toArray s 0 0 (fun _ => False)) (F0 m 37 ls []) := by
            intro x1 x2 x3 ls hq hl
            unfold q1_pairsOut_37 at hq
            refine lv_iinc (v := (x3 + (1 : Int32))) (lv' := [(3, .int (x3 + (1 : Int32))), (0, .ref (ao 0)), (1, .int x1), (2, .int x2)]) hx hb dX1_pairsOut_37 hl (k := 3) rfl (by rfl) (by decide) rfl (fun ls hl => ?_)
            refine lv_goto (tgt := 14) hx hb dX1_pairsOut_40 (by decide) ?_
            exact ih14 x1 x2 (x3 + (1 : Int32)) _ hq (lv_sub hl [1, 2, 3, 0] rfl)
          unfold q1_pairsOut_14 at hq
          refine lv_iload_n hx hb dX1_pairsOut_14 rfl (lv_at hl 3 rfl) ?_
          refine lv_iload_n hx hb dX1_pairsOut_15 rfl (lv_at hl 2 rfl) ?_
          refine lv_icmp_ge (tgt := 43) hx hb dX1_pairsOut_16 (by decide) (fun c6 => ?_) (fun c6 => ?_)
          · have hq := hq.1 c6
            exact B43 x1 x2 _ hq (lv_sub hl [0, 1, 2] rfl)
          · have hq := hq.2 c6
            refine lv_aload_n hx hb dX1_pairsOut_19 rfl (lv_at hl 0 rfl) ?_
            refine va_get (D := (dC, dI)) (ci := 1) (v := .ref (ao 1)) (C := RX1) (T := TX1) (N := 3) hx hb hts uwX1 hown hK hP 0 rfl rfl 0 (by decide) (hts _ fl_X1_9) (fun _ h9 => h9) rfl dX1_pairsOut_20 ?_
            refine lv_iload_n hx hb dX1_pairsOut_23 rfl (lv_at hl 3 rfl) ?_
            obtain ⟨i7, hq⟩ := hq
            refine va_iald hx hb hK hP 1 0 rfl rfl i7 dX1_pairsOut_24 ?_
            refine lv_aload_n hx hb dX1_pairsOut_25 rfl (lv_at hl 0 rfl) ?_
            refine va_get (D := (dC, dI)) (ci := 1) (v := .ref (ao 1)) (C := RX1) (T := TX1) (N := 3) hx hb hts uwX1 hown hK hP 0 rfl rfl 0 (by decide) (hts _ fl_X1_9) (fun _ h9 => h9) rfl dX1_pairsOut_26 ?_
            refine lv_iload_n hx hb dX1_pairsOut_29 rfl (lv_at hl 2 rfl) ?_
            obtain ⟨i8, hq⟩ := hq
            refine va_iald hx hb hK hP 1 0 rfl rfl i8 dX1_pairsOut_30 ?_
            refine lv_icmp_le (tgt := 37) hx hb dX1_pairsOut_31 (by decide) (fun c9 => ?_) (fun c9 => ?_)
            · have hq := hq.1 c9
              exact B37 x1 x2 x3 _ hq (lv_sub hl [0, 1, 2, 3] rfl)
            · have hq := hq.2 c9
              refine lv_iinc (v := (x1 + (1 : Int32))) (lv' := [(1, .int (x1 + (1 : Int32))), (0, .ref (ao 0)), (2, .int x2), (3, .int x3)]) hx hb dX1_pairsOut_34 hl (k := 1) rfl (by rfl) (by decide) rfl (fun ls hl => ?_)
              exact B37 (x1 + (1 : Int32)) x2 x3 _ hq (lv_sub hl [1, 0, 2, 3] rfl)
      unfold q1_pairsOut_4 at hq
      refine lv_iload_n hx hb dX1_pairsOut_4 rfl (lv_at hl 2 rfl) ?_
      refine lv_aload_n hx hb dX1_pairsOut_5 rfl (lv_at hl 0 rfl) ?_
      refine va_get (D := (dC, dI)) (ci := 1) (v := .int o_size) (C := RX1) (T := TX1) (N := 3) hx hb hts uwX1 hown hK hP 0 rfl rfl 2 (by decide) (hts _ fl_X1_24) (fun _ h9 => h9) rfl dX1_pairsOut_6 ?_
      refine lv_icmp_ge (tgt := 49) hx hb dX1_pairsOut_9 (by decide) (fun c10 => ?_) (fun c10 => ?_)
      · have hq := hq.1 c10
        refine lv_iload_n hx hb dX1_pairsOut_49 rfl (lv_at hl 1 rfl) ?_
        exact W.iret (v := x1) hx hb hr (fun t ht hW => ⟨x1, rfl, hq, ht⟩) (fun q h => absurd h List.not_mem_nil) dX1_pairsOut_50
      · have hq := hq.2 c10
        refine lv_iconst (v := (0 : Int32)) hx hb dX1_pairsOut_12 (by decide) ?_
        refine lv_istore_n (lv' := [(3, .int (0 : Int32)), (0, .ref (ao 0)), (1, .int x1), (2, .int x2)]) hx hb dX1_pairsOut_13 rfl hl (by decide) rfl (fun ls hl => ?_)
        obtain ⟨kf, hq⟩ := hq
        exact B14 kf x1 x2 (0 : Int32) _ hq (lv_sub hl [1, 2, 3, 0] rfl)
  unfold q1_pairsOut at hq
  refine lv_iconst (v := (0 : Int32)) hx hb dX1_pairsOut_0 (by decide) ?_
  refine lv_istore_n (lv' := [(1, .int (0 : Int32)), (0, .ref (ao 0))]) hx hb dX1_pairsOut_1 rfl hl (by decide) rfl (fun ls hl => ?_)
  refine lv_iconst (v := (0 : Int32)) hx hb dX1_pairsOut_2 (by decide) ?_
  refine lv_istore_n (lv' := [(2, .int (0 : Int32)), (1, .int (0 : Int32)), (0, .ref (ao 0))]) hx hb dX1_pairsOut_3 rfl hl (by decide) rfl (fun ls hl => ?_)
  obtain ⟨kf, hq⟩ := hq
  exact B4 kf (0 : Int32) (0 : Int32) _ hq (lv_sub hl [2, 1, 0] rfl)
set_option maxHeartbeats 4000000 in
set_option maxRecDepth 100000 in
theorem c1_longestRise (l : Launch) (dC : Nat → ClassId) (dI : Nat → Nat → Nat) (cs : Nat → ClassId) (ao : Nat → Nat) (sz : Nat) (o_row : Nat → Int32) (o_made : Nat → Int32) (o_size : Int32) {Q : Int32 → (Nat → Int32) → Prop} (hq : q1_longestRise o_row o_size o_made Q) : Met l yX1_longestRise (.code yX1_longestRise cX1_longestRise 5 (some .int) :: gt) ({ frames := 1, cells := 0, slots := 0, locals := 21 } : Room) (va_Pc [.ref (ao 0)] (Pw (dC, dI) (KA cs) (wX1 cs ao o_row o_made o_size) sz)) (va_Qi (fun (r : Int32) (u : (Nat → Int32)) => Q r u) (Bw (dC, dI) (KA cs) (va_A (wX1 cs ao o_row o_made o_size) sz) (fun u : (Nat → Int32) => (wX1 cs ao o_row u o_size))) (va_A (wX1 cs ao o_row o_made o_size) sz)) 0 0 (va_A (wX1 cs ao o_row o_made o_size) sz) := by
  refine Met.ofW (cc := cX1_longestRise) (maxL := 5) (ret := (some .int)) (by decide) rfl ?_
  intro p e s m args below meth c s₁ B hml hv
  obtain ⟨rfl, hsz, hP, hK, hD0, hN⟩ := hv
  have hx := B.exec
  have hb := B.bytes
  have hr := B.returns
  have hts0 := atoms_spec (ws := (.code yX1_longestRise cX1_longestRise 5 (some .int) :: gt)) B.pre
  have hts : ∀ w ∈ gt, w.before _ s = true := fun w h => hts0 w (List.mem_cons_of_mem _ h)
  have hown : s.vm.findClass RX1 = some m.cls := findClass_of_methodNamed B.named
  have hlocks := B.notSynchronized
  subst hsz
  have hD := hD0.self (sz := s.heap.size)
  generalize hAe : va_A (wX1 cs ao o_row o_made o_size) s.heap.size = A at hD ⊢
  have hA : ∀ q : Nat, s.heap.size ≤ q → A q := fun q h => by rw [← hAe]; exact Or.inr h
  have hS : va_S A s.heap s.heap [] := va_S.rf
  have hl := lv_entry ([.ref (ao 0)]) (n := 5) (Nat.le_of_ble_eq_true rfl)
  rw [lg_entry_eq]
  generalize (lg_sl ([.ref (ao 0)]) ++ List.replicate (5 - (lg_sl ([.ref (ao 0)])).length) Slot.unset).toArray = ls at hl ⊢
  have hl : lv_has ls 5 [(0, .ref (ao 0))] := hl
  have B4 : ∀ (k4 : Nat) (x1 : Int32) (x2 : Int32) (o_made : Nat → Int32) (H : Heap) (locs : List Loc) (ls : Array Slot), q1_longestRise_4 o_row o_size Q k4 x1 x2 o_made → va_P (dC, dI) vwCl (wX1 cs ao o_row o_made o_size) H → va_D A (wX1 cs ao o_row o_made o_size) → va_S A s.heap H locs → lv_has ls 5 [(0, .ref (ao 0)), (1, .int x1), (2, .int x2)] → W p l e ({ frames := 1, cells := 0, slots := 0, locals := 21 } : Room) s m ([.ref (ao 0)] : List Value).toArray below meth c H locs 0 0 (MQ below (va_Qi (fun (r : Int32) (u : (Nat → Int32)) => Q r u) (Bw (dC, dI) (KA cs) A (fun u : (Nat → Int32) => (wX1 cs ao o_row u o_size))) A) ([.ref (ao 0)] : List Value).toArray s 0 0 A) (F0 m 4 ls []) := by
    intro k4
    induction k4 with
    | zero => intro x1 x2 o_made H locs ls hq; exact False.elim hq
    | succ k4 ih4 =>
      intro x1 x2 o_made H locs ls hq hP hD hS hl
      have B57 : ∀ (x1 : Int32) (x2 : Int32) (x3 : Int32) (o_made : Nat → Int32) (H : Heap) (locs : List Loc) (ls : Array Slot), q1_longestRise_57 o_row o_size (fun v0 v1 v2 => q1_longestRise_4 o_row o_size Q k4 v0 v1 v2) Q x1 x2 x3 o_made → va_P (dC, dI) vwCl (wX1 cs ao o_row o_made o_size) H → va_D A (wX1 cs ao o_row o_made o_size) → va_S A s.heap H locs → lv_has ls 5 [(0, .ref (ao 0)), (1, .int x1), (2, .int x2), (3, .int x3)] → W p l e ({ frames := 1, cells := 0, slots := 0, locals := 21 } : Room) s m ([.ref (ao 0)] : List Value).toArray below meth c H locs 0 0 (MQ below (va_Qi (fun (r : Int32) (u : (Nat → Int32)) => Q r u) (Bw (dC, dI) (KA cs) A (fun u : (Nat → Int32) => (wX1 cs ao o_row u o_size))) A) ([.ref (ao 0)] : List Value).toArray s 0 0 A) (F0 m 57 ls []) := by
        intro x1 x2 x3 o_made H locs ls hq hP hD hS hl
        unfold q1_longestRise_57 at hq
        refine lv_aload_n hx hb dX1_longestRise_57 rfl (lv_at hl 0 rfl) ?_
        refine va_get (D := (dC, dI)) (ci := 1) (v := .ref (ao 2)) (C := RX1) (T := TX1) (N := 3) hx hb hts uwX1 hown hK hP 0 rfl rfl 1 (by decide) (hts _ fl_X1_15) (fun _ h9 => h9) rfl dX1_longestRise_58 ?_
        refine lv_iload_n hx hb dX1_longestRise_61 rfl (lv_at hl 2 rfl) ?_
        refine lv_iload_n hx hb dX1_longestRise_62 rfl (lv_at hl 3 rfl) ?_
        refine lv_iconst (v := (1 : Int32)) hx hb dX1_longestRise_63 (by decide) ?_
        refine lv_iadd hx hb dX1_longestRise_64 ?_
        obtain ⟨i9, hq⟩ := hq
        refine va_iast hx hb hK hP hD hS 2 0 rfl rfl i9 dX1_longestRise_65 (fun H locs hP hD hS => ?_)
        have hP : va_P (dC, dI) vwCl (wX1 cs ao o_row (upd o_made x2.toNatClampNeg (x3 + (1 : Int32))) o_size) H := hP
        have hD : va_D A (wX1 cs ao o_row (upd o_made x2.toNatClampNeg (x3 + (1 : Int32))) o_size) := hD
        refine lv_iload_n hx hb dX1_longestRise_66 rfl (lv_at hl 1 rfl) ?_
        refine lv_aload_n hx hb dX1_longestRise_67 rfl (lv_at hl 0 rfl) ?_
        refine va_get (D := (dC, dI)) (ci := 1) (v := .ref (ao 2)) (C := RX1) (T := TX1) (N := 3) hx hb hts uwX1 hown hK hP 0 rfl rfl 1 (by decide) (hts _ fl_X1_15) (fun _ h9 => h9) rfl dX1_longestRise_68 ?_
        refine lv_iload_n hx hb dX1_longestRise_71 rfl (lv_at hl 2 rfl) ?_
        obtain ⟨i10, hq⟩ := hq
        refine va_iald hx hb hK hP 2 0 rfl rfl i10 dX1_longestRise_72 ?_
        refine va_mmax hx hb (hml.trans hl.1.symm) hown (hts _ ml_X1_45) (hts _ sm_J9_max) (hts _ in_J9) (hts _ cw_J9_max) (Nat.le_of_ble_eq_true rfl) (Nat.le_of_ble_eq_true rfl) (Nat.le_of_ble_eq_true rfl) (Nat.le_of_ble_eq_true rfl) dX1_longestRise_73 ?_
        refine lv_istore_n (lv' := [(1, .int (if x1 < ((upd o_made x2.toNatClampNeg (x3 + (1 : Int32))) x2.toNatClampNeg) then ((upd o_made x2.toNatClampNeg (x3 + (1 : Int32))) x2.toNatClampNeg) else x1)), (0, .ref (ao 0)), (2, .int x2), (3, .int x3)]) hx hb dX1_longestRise_76 rfl hl (by decide) rfl (fun ls hl => ?_)
        refine lv_iinc (v := (x2 + (1 : Int32))) (lv' := [(2, .int (x2 + (1 : Int32))), (1, .int (if x1 < ((upd o_made x2.toNatClampNeg (x3 + (1 : Int32))) x2.toNatClampNeg) then ((upd o_made x2.toNatClampNeg (x3 + (1 : Int32))) x2.toNatClampNeg) else x1)), (0, .ref (ao 0)), (3, .int x3)]) hx hb dX1_longestRise_77 hl (k := 2) rfl (by rfl) (by decide) rfl (fun ls hl => ?_)
        refine lv_goto (tgt := 4) hx hb dX1_longestRise_80 (by decide) ?_
        exact ih4 (if x1 < ((upd o_made x2.toNatClampNeg (x3 + (1 : Int32))) x2.toNatClampNeg) then ((upd o_made x2.toNatClampNeg (x3 + (1 : Int32))) x2.toNatClampNeg) else x1) (x2 + (1 : Int32)) (upd o_made x2.toNatClampNeg (x3 + (1 : Int32))) _ _ _ hq hP hD hS (lv_sub hl [2, 1, 0] rfl)
      have B17 : ∀ (k17 : Nat) (x1 : Int32) (x2 : Int32) (x3 : Int32) (x4 : Int32) (o_made : Nat → Int32) (H : Heap) (locs : List Loc) (ls : Array Slot), q1_longestRise_17 o_row o_size (fun v0 v1 v2 => q1_longestRise_4 o_row o_size Q k4 v0 v1 v2) Q k17 x1 x2 x3 x4 o_made → va_P (dC, dI) vwCl (wX1 cs ao o_row o_made o_size) H → va_D A (wX1 cs ao o_row o_made o_size) → va_S A s.heap H locs → lv_has ls 5 [(0, .ref (ao 0)), (1, .int x1), (2, .int x2), (3, .int x3), (4, .int x4)] → W p l e ({ frames := 1, cells := 0, slots := 0, locals := 21 } : Room) s m ([.ref (ao 0)] : List Value).toArray below meth c H locs 0 0 (MQ below (va_Qi (fun (r : Int32) (u : (Nat → Int32)) => Q r u) (Bw (dC, dI) (KA cs) A (fun u : (Nat → Int32) => (wX1 cs ao o_row u o_size))) A) ([.ref (ao 0)] : List Value).toArray s 0 0 A) (F0 m 17 ls []) := by
        intro k17
        induction k17 with
        | zero => intro x1 x2 x3 x4 o_made H locs ls hq; exact False.elim hq
        | succ k17 ih17 =>
          intro x1 x2 x3 x4 o_made H locs ls hq hP hD hS hl
          have B51 : ∀ (x1 : Int32) (x2 : Int32) (x3 : Int32) (x4 : Int32) (o_made : Nat → Int32) (H : Heap) (locs : List Loc) (ls : Array Slot), q1_longestRise_51 o_row o_size (fun v0 v1 v2 => q1_longestRise_4 o_row o_size Q k4 v0 v1 v2) (fun v0 v1 v2 v3 v4 => q1_longestRise_17 o_row o_size (fun v0 v1 v2 => q1_longestRise_4 o_row o_size Q k4 v0 v1 v2) Q k17 v0 v1 v2 v3 v4) Q x1 x2 x3 x4 o_made → va_P (dC, dI) vwCl (wX1 cs ao o_row o_made o_size) H → va_D A (wX1 cs ao o_row o_made o_size) → va_S A s.heap H locs → lv_has ls 5 [(0, .ref (ao 0)), (1, .int x1), (2, .int x2), (3, .int x3), (4, .int x4)] → W p l e ({ frames := 1, cells := 0, slots := 0, locals := 21 } : Room) s m ([.ref (ao 0)] : List Value).toArray below meth c H locs 0 0 (MQ below (va_Qi (fun (r : Int32) (u : (Nat → Int32)) => Q r u) (Bw (dC, dI) (KA cs) A (fun u : (Nat → Int32) => (wX1 cs ao o_row u o_size))) A) ([.ref (ao 0)] : List Value).toArray s 0 0 A) (F0 m 51 ls []) := by
            intro x1 x2 x3 x4 o_made H locs ls hq hP hD hS hl
            unfold q1_longestRise_51 at hq
            refine lv_iinc (v := (x4 + (1 : Int32))) (lv' := [(4, .int (x4 + (1 : Int32))), (0, .ref (ao 0)), (1, .int x1), (2, .int x2), (3, .int x3)]) hx hb dX1_longestRise_51 hl (k := 4) rfl (by rfl) (by decide) rfl (fun ls hl => ?_)
            refine lv_goto (tgt := 17) hx hb dX1_longestRise_54 (by decide) ?_
            exact ih17 x1 x2 x3 (x4 + (1 : Int32)) o_made _ _ _ hq hP hD hS (lv_sub hl [1, 2, 3, 4, 0] rfl)
          unfold q1_longestRise_17 at hq
          refine lv_iload hx hb dX1_longestRise_17 (lv_at hl 4 rfl) ?_
          refine lv_iload_n hx hb dX1_longestRise_19 rfl (lv_at hl 2 rfl) ?_
          refine lv_icmp_ge (tgt := 57) hx hb dX1_longestRise_20 (by decide) (fun c11 => ?_) (fun c11 => ?_)
          · have hq := hq.1 c11
            exact B57 x1 x2 x3 o_made _ _ _ hq hP hD hS (lv_sub hl [0, 1, 2, 3] rfl)
          · have hq := hq.2 c11
            refine lv_aload_n hx hb dX1_longestRise_23 rfl (lv_at hl 0 rfl) ?_
            refine va_get (D := (dC, dI)) (ci := 1) (v := .ref (ao 1)) (C := RX1) (T := TX1) (N := 3) hx hb hts uwX1 hown hK hP 0 rfl rfl 0 (by decide) (hts _ fl_X1_9) (fun _ h9 => h9) rfl dX1_longestRise_24 ?_
            refine lv_iload hx hb dX1_longestRise_27 (lv_at hl 4 rfl) ?_
            obtain ⟨i12, hq⟩ := hq
            refine va_iald hx hb hK hP 1 0 rfl rfl i12 dX1_longestRise_29 ?_
            refine lv_aload_n hx hb dX1_longestRise_30 rfl (lv_at hl 0 rfl) ?_
            refine va_get (D := (dC, dI)) (ci := 1) (v := .ref (ao 1)) (C := RX1) (T := TX1) (N := 3) hx hb hts uwX1 hown hK hP 0 rfl rfl 0 (by decide) (hts _ fl_X1_9) (fun _ h9 => h9) rfl dX1_longestRise_31 ?_
            refine lv_iload_n hx hb dX1_longestRise_34 rfl (lv_at hl 2 rfl) ?_
            obtain ⟨i13, hq⟩ := hq
            refine va_iald hx hb hK hP 1 0 rfl rfl i13 dX1_longestRise_35 ?_
            refine lv_icmp_ge (tgt := 51) hx hb dX1_longestRise_36 (by decide) (fun c14 => ?_) (fun c14 => ?_)
            · have hq := hq.1 c14
              exact B51 x1 x2 x3 x4 o_made _ _ _ hq hP hD hS (lv_sub hl [0, 1, 2, 3, 4] rfl)
            · have hq := hq.2 c14
              refine lv_iload_n hx hb dX1_longestRise_39 rfl (lv_at hl 3 rfl) ?_
              refine lv_aload_n hx hb dX1_longestRise_40 rfl (lv_at hl 0 rfl) ?_
              refine va_get (D := (dC, dI)) (ci := 1) (v := .ref (ao 2)) (C := RX1) (T := TX1) (N := 3) hx hb hts uwX1 hown hK hP 0 rfl rfl 1 (by decide) (hts _ fl_X1_15) (fun _ h9 => h9) rfl dX1_longestRise_41 ?_
              refine lv_iload hx hb dX1_longestRise_44 (lv_at hl 4 rfl) ?_
              obtain ⟨i15, hq⟩ := hq
              refine va_iald hx hb hK hP 2 0 rfl rfl i15 dX1_longestRise_46 ?_
              refine va_mmax hx hb (hml.trans hl.1.symm) hown (hts _ ml_X1_45) (hts _ sm_J9_max) (hts _ in_J9) (hts _ cw_J9_max) (Nat.le_of_ble_eq_true rfl) (Nat.le_of_ble_eq_true rfl) (Nat.le_of_ble_eq_true rfl) (Nat.le_of_ble_eq_true rfl) dX1_longestRise_47 ?_
              refine lv_istore_n (lv' := [(3, .int (if x3 < (o_made x4.toNatClampNeg) then (o_made x4.toNatClampNeg) else x3)), (0, .ref (ao 0)), (1, .int x1), (2, .int x2), (4, .int x4)]) hx hb dX1_longestRise_50 rfl hl (by decide) rfl (fun ls hl => ?_)
              exact B51 x1 x2 (if x3 < (o_made x4.toNatClampNeg) then (o_made x4.toNatClampNeg) else x3) x4 o_made _ _ _ hq hP hD hS (lv_sub hl [1, 2, 3, 0, 4] rfl)
      unfold q1_longestRise_4 at hq
      refine lv_iload_n hx hb dX1_longestRise_4 rfl (lv_at hl 2 rfl) ?_
      refine lv_aload_n hx hb dX1_longestRise_5 rfl (lv_at hl 0 rfl) ?_
      refine va_get (D := (dC, dI)) (ci := 1) (v := .int o_size) (C := RX1) (T := TX1) (N := 3) hx hb hts uwX1 hown hK hP 0 rfl rfl 2 (by decide) (hts _ fl_X1_24) (fun _ h9 => h9) rfl dX1_longestRise_6 ?_
      refine lv_icmp_ge (tgt := 83) hx hb dX1_longestRise_9 (by decide) (fun c16 => ?_) (fun c16 => ?_)
      · have hq := hq.1 c16
        refine lv_iload_n hx hb dX1_longestRise_83 rfl (lv_at hl 1 rfl) ?_
        exact W.iret (v := x1) hx hb hr (fun t ht hW => ⟨⟨x1, o_made, rfl, hq, Bw_mk (by rw [ht]; exact hP) (va_K.moved hW.alike hK) hD⟩, hS.F ht⟩) hS.2.2 dX1_longestRise_84
      · have hq := hq.2 c16
        refine lv_iconst (v := (0 : Int32)) hx hb dX1_longestRise_12 (by decide) ?_
        refine lv_istore_n (lv' := [(3, .int (0 : Int32)), (0, .ref (ao 0)), (1, .int x1), (2, .int x2)]) hx hb dX1_longestRise_13 rfl hl (by decide) rfl (fun ls hl => ?_)
        refine lv_iconst (v := (0 : Int32)) hx hb dX1_longestRise_14 (by decide) ?_
        refine lv_istore (lv' := [(4, .int (0 : Int32)), (3, .int (0 : Int32)), (0, .ref (ao 0)), (1, .int x1), (2, .int x2)]) hx hb dX1_longestRise_15 hl (by decide) rfl (fun ls hl => ?_)
        obtain ⟨kf, hq⟩ := hq
        exact B17 kf x1 x2 (0 : Int32) (0 : Int32) o_made _ _ _ hq hP hD hS (lv_sub hl [2, 3, 4, 1, 0] rfl)
  unfold q1_longestRise at hq
  refine lv_iconst (v := (0 : Int32)) hx hb dX1_longestRise_0 (by decide) ?_
  refine lv_istore_n (lv' := [(1, .int (0 : Int32)), (0, .ref (ao 0))]) hx hb dX1_longestRise_1 rfl hl (by decide) rfl (fun ls hl => ?_)
  refine lv_iconst (v := (0 : Int32)) hx hb dX1_longestRise_2 (by decide) ?_
  refine lv_istore_n (lv' := [(2, .int (0 : Int32)), (1, .int (0 : Int32)), (0, .ref (ao 0))]) hx hb dX1_longestRise_3 rfl hl (by decide) rfl (fun ls hl => ?_)
  obtain ⟨kf, hq⟩ := hq
  exact B4 kf (0 : Int32) (0 : Int32) o_made _ _ _ hq hP hD hS (lv_sub hl [2, 1, 0] rfl)
set_option maxHeartbeats 4000000 in
set_option maxRecDepth 100000 in
theorem c1_turns (l : Launch) (dC : Nat → ClassId) (dI : Nat → Nat → Nat) (cs : Nat → ClassId) (ao : Nat → Nat) (o_row : Nat → Int32) (o_made : Nat → Int32) (o_size : Int32) {Q : Int32 → Prop} (hq : q1_turns o_row o_size Q) : Met l yX1_turns (.code yX1_turns cX1_turns 3 (some .int) :: gt) ({ frames := 3, cells := 0, slots := 0, locals := 65 } : Room) (va_Pc [.ref (ao 0)] (Pr (dC, dI) (KA cs) (wX1 cs ao o_row o_made o_size))) (vp_Si Q) 0 0 (fun _ => False) := by
  refine Met.ofW (cc := cX1_turns) (maxL := 3) (ret := (some .int)) (by decide) rfl ?_
  intro p e s m args below meth c s₁ B hml hv
  obtain ⟨rfl, hP, hK, hN⟩ := hv
  have hx := B.exec
  have hb := B.bytes
  have hr := B.returns
  have hts0 := atoms_spec (ws := (.code yX1_turns cX1_turns 3 (some .int) :: gt)) B.pre
  have hts : ∀ w ∈ gt, w.before _ s = true := fun w h => hts0 w (List.mem_cons_of_mem _ h)
  have hown : s.vm.findClass RX1 = some m.cls := findClass_of_methodNamed B.named
  have hlocks := B.notSynchronized
  have hl := lv_entry ([.ref (ao 0)]) (n := 3) (Nat.le_of_ble_eq_true rfl)
  rw [lg_entry_eq]
  generalize (lg_sl ([.ref (ao 0)]) ++ List.replicate (3 - (lg_sl ([.ref (ao 0)])).length) Slot.unset).toArray = ls at hl ⊢
  have hl : lv_has ls 3 [(0, .ref (ao 0))] := hl
  have B4 : ∀ (k4 : Nat) (x1 : Int32) (x2 : Int32) (ls : Array Slot), q1_turns_4 o_row o_size Q k4 x1 x2 → lv_has ls 3 [(0, .ref (ao 0)), (1, .int x1), (2, .int x2)] → W p l e ({ frames := 3, cells := 0, slots := 0, locals := 65 } : Room) s m ([.ref (ao 0)] : List Value).toArray below meth c s.heap [] 0 0 (MQ below (vp_Si Q) ([.ref (ao 0)] : List Value).toArray s 0 0 (fun _ => False)) (F0 m 4 ls []) := by
    intro k4
    induction k4 with
    | zero => intro x1 x2 ls hq; exact False.elim hq
    | succ k4 ih4 =>
      intro x1 x2 ls hq hl
      have B30 : ∀ (x1 : Int32) (x2 : Int32) (ls : Array Slot), q1_turns_30 o_row o_size (fun v0 v1 => q1_turns_4 o_row o_size Q k4 v0 v1) Q x1 x2 → lv_has ls 3 [(0, .ref (ao 0)), (1, .int x1), (2, .int x2)] → W p l e ({ frames := 3, cells := 0, slots := 0, locals := 65 } : Room) s m ([.ref (ao 0)] : List Value).toArray below meth c s.heap [] 0 0 (MQ below (vp_Si Q) ([.ref (ao 0)] : List Value).toArray s 0 0 (fun _ => False)) (F0 m 30 ls []) := by
        intro x1 x2 ls hq hl
        unfold q1_turns_30 at hq
        refine lv_iinc (v := (x2 + (1 : Int32))) (lv' := [(2, .int (x2 + (1 : Int32))), (0, .ref (ao 0)), (1, .int x1)]) hx hb dX1_turns_30 hl (k := 2) rfl (by rfl) (by decide) rfl (fun ls hl => ?_)
        refine lv_goto (tgt := 4) hx hb dX1_turns_33 (by decide) ?_
        exact ih4 x1 (x2 + (1 : Int32)) _ hq (lv_sub hl [1, 2, 0] rfl)
      unfold q1_turns_4 at hq
      refine lv_iload_n hx hb dX1_turns_4 rfl (lv_at hl 2 rfl) ?_
      refine lv_aload_n hx hb dX1_turns_5 rfl (lv_at hl 0 rfl) ?_
      refine va_get (D := (dC, dI)) (ci := 1) (v := .int o_size) (C := RX1) (T := TX1) (N := 3) hx hb hts uwX1 hown hK hP 0 rfl rfl 2 (by decide) (hts _ fl_X1_24) (fun _ h9 => h9) rfl dX1_turns_6 ?_
      refine lv_icmp_ge (tgt := 36) hx hb dX1_turns_9 (by decide) (fun c6 => ?_) (fun c6 => ?_)
      · have hq := hq.1 c6
        refine lv_iload_n hx hb dX1_turns_36 rfl (lv_at hl 1 rfl) ?_
        exact W.iret (v := x1) hx hb hr (fun t ht hW => ⟨x1, rfl, hq, ht⟩) (fun q h => absurd h List.not_mem_nil) dX1_turns_37
      · have hq := hq.2 c6
        refine lv_aload_n hx hb dX1_turns_12 rfl (lv_at hl 0 rfl) ?_
        refine lv_iload_n hx hb dX1_turns_13 rfl (lv_at hl 2 rfl) ?_
        refine roi (runV ⟨hx, hb, hml, hown, hts⟩ wf_X1_leadsRound ml_X1_48 (c1_leadsRound l dC dI cs ao o_row o_made o_size x2 hq) ⟨⟨rfl, rfl⟩, by decide, by decide⟩ (preR hP hK hN) hK hP rfl 0 rfl rfl hl.1 rfl (Nat.le_of_ble_eq_true rfl) dX1_turns_14 ⟨(Nat.le_of_ble_eq_true rfl), (Nat.le_of_ble_eq_true rfl)⟩) (fun r7 hq => ?_)
        refine lv_if_eq (tgt := 30) hx hb dX1_turns_17 (by decide) (fun c8 => ?_) (fun c8 => ?_)
        · have hq := hq.1 c8
          exact B30 x1 x2 _ hq (lv_sub hl [0, 1, 2] rfl)
        · have hq := hq.2 c8
          refine lv_iload_n hx hb dX1_turns_20 rfl (lv_at hl 1 rfl) ?_
          refine lv_aload_n hx hb dX1_turns_21 rfl (lv_at hl 0 rfl) ?_
          refine lv_iload_n hx hb dX1_turns_22 rfl (lv_at hl 2 rfl) ?_
          refine roi (runV ⟨hx, hb, hml, hown, hts⟩ wf_X1_roundLength ml_X1_51 (c1_roundLength l dC dI cs ao o_row o_made o_size x2 hq) ⟨⟨rfl, rfl⟩, by decide, by decide⟩ (preR hP hK hN) hK hP rfl 0 rfl rfl hl.1 rfl (Nat.le_of_ble_eq_true rfl) dX1_turns_23 ⟨(Nat.le_of_ble_eq_true rfl), (Nat.le_of_ble_eq_true rfl)⟩) (fun r9 hq => ?_)
          refine roi (runSN ⟨hx, hb, hml, hown, hts⟩ ws_X6_commonMultiple (by decide +kernel) (c6_commonMultiple l dC dI cs   x1 r9 hq) ⟨⟨rfl, rfl⟩, by decide, by decide⟩ (preR va_P_nil hK hN) hN rfl hl.1 rfl (Nat.le_of_ble_eq_true rfl) dX1_turns_26 ⟨(Nat.le_of_ble_eq_true rfl), (Nat.le_of_ble_eq_true rfl)⟩) (fun r10 hq => ?_)
          refine lv_istore_n (lv' := [(1, .int r10), (0, .ref (ao 0)), (2, .int x2)]) hx hb dX1_turns_29 rfl hl (by decide) rfl (fun ls hl => ?_)
          exact B30 r10 x2 _ hq (lv_sub hl [1, 0, 2] rfl)
  unfold q1_turns at hq
  refine lv_iconst (v := (1 : Int32)) hx hb dX1_turns_0 (by decide) ?_
  refine lv_istore_n (lv' := [(1, .int (1 : Int32)), (0, .ref (ao 0))]) hx hb dX1_turns_1 rfl hl (by decide) rfl (fun ls hl => ?_)
  refine lv_iconst (v := (0 : Int32)) hx hb dX1_turns_2 (by decide) ?_
  refine lv_istore_n (lv' := [(2, .int (0 : Int32)), (1, .int (1 : Int32)), (0, .ref (ao 0))]) hx hb dX1_turns_3 rfl hl (by decide) rfl (fun ls hl => ?_)
  obtain ⟨kf, hq⟩ := hq
  exact B4 kf (1 : Int32) (0 : Int32) _ hq (lv_sub hl [2, 1, 0] rfl)
