set_option maxHeartbeats 4000000 in
set_option maxRecDepth 100000 in
theorem c7_nextShape (l : Launch) (dC : Nat → ClassId) (dI : Nat → Nat → Nat) (cs : Nat → ClassId) (ad : Nat → Nat) (sz : Nat) (m_n : Int32) (m_order : Nat → Int32) (m_shelf : Nat → Int32) (m_opens : Int32) (m_lists : Nat → Int32) (m_listed : Nat → Int32) (m_work : Nat → Int32) (m_counts : Nat → Int64) (m_older : Nat → Int64) (m_products : Nat → Int64) (m_part : Nat → Int32) (m_parts : Int32) (m_ways : Nat → Int64) (m_used : Int32) (m_greaterNow : Int32) (m_countNow : Int32) {Q : Int32 → (Nat → Int32) → Int32 → Prop} (hq : q7_nextShape m_part m_parts Q) : Met l yX7_nextShape (.code yX7_nextShape cX7_nextShape 4 (some .boolean) :: gt) ({ frames := 0, cells := 0, slots := 0, locals := 0 } : Room) (va_Pc [.ref (ad 0)] (Pw (dC, dI) (KA cs) (wX7 cs ad m_n m_order m_shelf m_opens m_lists m_listed m_work m_counts m_older m_products m_part m_parts m_ways m_used m_greaterNow m_countNow) sz)) (va_Qi (fun (r : Int32) (u : (Nat → Int32) × Int32) => Q r u.1 u.2) (Bw (dC, dI) (KA cs) (va_A (wX7 cs ad m_n m_order m_shelf m_opens m_lists m_listed m_work m_counts m_older m_products m_part m_parts m_ways m_used m_greaterNow m_countNow) sz) (fun u : (Nat → Int32) × Int32 => (wX7 cs ad m_n m_order m_shelf m_opens m_lists m_listed m_work m_counts m_older m_products u.1 u.2 m_ways m_used m_greaterNow m_countNow))) (va_A (wX7 cs ad m_n m_order m_shelf m_opens m_lists m_listed m_work m_counts m_older m_products m_part m_parts m_ways m_used m_greaterNow m_countNow) sz)) 0 0 (va_A (wX7 cs ad m_n m_order m_shelf m_opens m_lists m_listed m_work m_counts m_older m_products m_part m_parts m_ways m_used m_greaterNow m_countNow) sz) := by
  refine Met.ofW (cc := cX7_nextShape) (maxL := 4) (ret := (some .boolean)) (by decide) rfl ?_
  intro p e s m args below meth c s₁ B hml hv
  obtain ⟨rfl, hsz, hP, hK, hD0, hN⟩ := hv
  have hx := B.exec
  have hb := B.bytes
  have hr := B.returns
  have hts0 := atoms_spec (ws := (.code yX7_nextShape cX7_nextShape 4 (some .boolean) :: gt)) B.pre
  have hts : ∀ w ∈ gt, w.before _ s = true := fun w h => hts0 w (List.mem_cons_of_mem _ h)
  have hown : s.vm.findClass RX7 = some m.cls := findClass_of_methodNamed B.named
  have hlocks := B.notSynchronized
  subst hsz
  have hD := hD0.self (sz := s.heap.size)
  generalize hAe : va_A (wX7 cs ad m_n m_order m_shelf m_opens m_lists m_listed m_work m_counts m_older m_products m_part m_parts m_ways m_used m_greaterNow m_countNow) s.heap.size = A at hD ⊢
  have hA : ∀ q : Nat, s.heap.size ≤ q → A q := fun q h => by rw [← hAe]; exact Or.inr h
  have hS : va_S A s.heap s.heap [] := va_S.rf
  have hl := lv_entry ([.ref (ad 0)]) (n := 4) (Nat.le_of_ble_eq_true rfl)
  rw [lg_entry_eq]
  generalize (lg_sl ([.ref (ad 0)]) ++ List.replicate (4 - (lg_sl ([.ref (ad 0)])).length) Slot.unset).toArray = ls at hl ⊢
  have hl : lv_has ls 4 [(0, .ref (ad 0))] := hl
  have B80 : ∀ (k80 : Nat) (x2 : Int32) (x3 : Int32) (m_part : Nat → Int32) (m_parts : Int32) (H : Heap) (locs : List Loc) (ls : Array Slot), q7_nextShape_80 Q k80 x2 x3 m_part m_parts → va_P (dC, dI) vwCl (wX7 cs ad m_n m_order m_shelf m_opens m_lists m_listed m_work m_counts m_older m_products m_part m_parts m_ways m_used m_greaterNow m_countNow) H → va_D A (wX7 cs ad m_n m_order m_shelf m_opens m_lists m_listed m_work m_counts m_older m_products m_part m_parts m_ways m_used m_greaterNow m_countNow) → va_S A s.heap H locs → lv_has ls 4 [(0, .ref (ad 0)), (2, .int x2), (3, .int x3)] → W p l e ({ frames := 0, cells := 0, slots := 0, locals := 0 } : Room) s m ([.ref (ad 0)] : List Value).toArray below meth c H locs 0 0 (MQ below (va_Qi (fun (r : Int32) (u : (Nat → Int32) × Int32) => Q r u.1 u.2) (Bw (dC, dI) (KA cs) A (fun u : (Nat → Int32) × Int32 => (wX7 cs ad m_n m_order m_shelf m_opens m_lists m_listed m_work m_counts m_older m_products u.1 u.2 m_ways m_used m_greaterNow m_countNow))) A) ([.ref (ad 0)] : List Value).toArray s 0 0 A) (F0 m 80 ls []) := by
    intro k80
    induction k80 with
    | zero => intro x2 x3 m_part m_parts H locs ls hq; exact False.elim hq
    | succ k80 ih80 =>
      intro x2 x3 m_part m_parts H locs ls hq hP hD hS hl
      have B102 : ∀ (s1 : Int32) (s2 : Int32) (x2 : Int32) (x3 : Int32) (m_part : Nat → Int32) (m_parts : Int32) (H : Heap) (locs : List Loc) (ls : Array Slot), q7_nextShape_102 (fun v0 v1 v2 v3 => q7_nextShape_80 Q k80 v0 v1 v2 v3) Q s1 s2 x2 x3 m_part m_parts → va_P (dC, dI) vwCl (wX7 cs ad m_n m_order m_shelf m_opens m_lists m_listed m_work m_counts m_older m_products m_part m_parts m_ways m_used m_greaterNow m_countNow) H → va_D A (wX7 cs ad m_n m_order m_shelf m_opens m_lists m_listed m_work m_counts m_older m_products m_part m_parts m_ways m_used m_greaterNow m_countNow) → va_S A s.heap H locs → lv_has ls 4 [(0, .ref (ad 0)), (2, .int x2), (3, .int x3)] → W p l e ({ frames := 0, cells := 0, slots := 0, locals := 0 } : Room) s m ([.ref (ad 0)] : List Value).toArray below meth c H locs 0 0 (MQ below (va_Qi (fun (r : Int32) (u : (Nat → Int32) × Int32) => Q r u.1 u.2) (Bw (dC, dI) (KA cs) A (fun u : (Nat → Int32) × Int32 => (wX7 cs ad m_n m_order m_shelf m_opens m_lists m_listed m_work m_counts m_older m_products u.1 u.2 m_ways m_used m_greaterNow m_countNow))) A) ([.ref (ad 0)] : List Value).toArray s 0 0 A) (F0 m 102 ls [.int s2, .int s1, .ref (ad 9)]) := by
        intro s1 s2 x2 x3 m_part m_parts H locs ls hq hP hD hS hl
        unfold q7_nextShape_102 at hq
        obtain ⟨i12, hq⟩ := hq
        refine va_iast hx hb hK hP hD hS 9 0 rfl rfl i12 dX7_nextShape_102 (fun H locs hP hD hS => ?_)
        have hP : va_P (dC, dI) vwCl (wX7 cs ad m_n m_order m_shelf m_opens m_lists m_listed m_work m_counts m_older m_products (upd m_part s1.toNatClampNeg s2) m_parts m_ways m_used m_greaterNow m_countNow) H := hP
        have hD : va_D A (wX7 cs ad m_n m_order m_shelf m_opens m_lists m_listed m_work m_counts m_older m_products (upd m_part s1.toNatClampNeg s2) m_parts m_ways m_used m_greaterNow m_countNow) := hD
        refine lv_iload_n hx hb dX7_nextShape_103 rfl (lv_at hl 1 rfl) ?_
        refine lv_aload_n hx hb dX7_nextShape_104 rfl (lv_at hl 0 rfl) ?_
        refine va_get (D := (dC, dI)) (ci := 7) (v := .ref (ad 9)) (C := RX7) (T := TX7) (N := 16) hx hb hts uwX7 hown hK hP 0 rfl rfl 10 (by decide) (hts _ fl_X7_42) (fun _ h9 => h9) rfl dX7_nextShape_105 ?_
        refine lv_aload_n hx hb dX7_nextShape_108 rfl (lv_at hl 0 rfl) ?_
        refine va_get (D := (dC, dI)) (ci := 7) (v := .int m_parts) (C := RX7) (T := TX7) (N := 16) hx hb hts uwX7 hown hK hP 0 rfl rfl 11 (by decide) (hts _ fl_X7_95) (fun _ h9 => h9) rfl dX7_nextShape_109 ?_
        obtain ⟨i13, hq⟩ := hq
        refine va_iald hx hb hK hP 9 0 rfl rfl i13 dX7_nextShape_112 ?_
        refine lv_isub hx hb dX7_nextShape_113 ?_
        refine lv_istore_n (lv' := [(2, .int (x2 - ((upd m_part s1.toNatClampNeg s2) m_parts.toNatClampNeg))), (0, .ref (ad 0)), (3, .int x3)]) hx hb dX7_nextShape_114 rfl hl (by decide) rfl (fun ls hl => ?_)
        refine lv_aload_n hx hb dX7_nextShape_115 rfl (lv_at hl 1 rfl) ?_
        refine lv_dup hx hb dX7_nextShape_116 rfl ?_
        refine va_get (D := (dC, dI)) (ci := 7) (v := .int m_parts) (C := RX7) (T := TX7) (N := 16) hx hb hts uwX7 hown hK hP 0 rfl rfl 11 (by decide) (hts _ fl_X7_95) (fun _ h9 => h9) rfl dX7_nextShape_117 ?_
        refine lv_iconst (v := (1 : Int32)) hx hb dX7_nextShape_120 (by decide) ?_
        refine lv_iadd hx hb dX7_nextShape_121 ?_
        refine va_put (D := (dC, dI)) (ci := 7) (v := .int (m_parts + (1 : Int32))) (ty := .int) (C := RX7) (T := TX7) (N := 16) hx hb hts uwX7 tyX7 tyX7_ok nmX7 hown hK hP hD hS 0 rfl rfl 11 (by decide) (hts _ fl_X7_95) (fun _ h9 => h9) rfl (by decide +kernel) rfl rfl (Nat.le_of_ble_eq_true rfl) dX7_nextShape_122 (fun H locs hP hD hS => ?_)
        have hP : va_P (dC, dI) vwCl (wX7 cs ad m_n m_order m_shelf m_opens m_lists m_listed m_work m_counts m_older m_products (upd m_part s1.toNatClampNeg s2) (m_parts + (1 : Int32)) m_ways m_used m_greaterNow m_countNow) H := hP
        have hD : va_D A (wX7 cs ad m_n m_order m_shelf m_opens m_lists m_listed m_work m_counts m_older m_products (upd m_part s1.toNatClampNeg s2) (m_parts + (1 : Int32)) m_ways m_used m_greaterNow m_countNow) := hD
        refine lv_goto (tgt := 80) hx hb dX7_nextShape_125 (by decide) ?_
        exact ih80 (x2 - ((upd m_part s1.toNatClampNeg s2) m_parts.toNatClampNeg)) x3 (upd m_part s1.toNatClampNeg s2) (m_parts + (1 : Int32)) _ _ _ hq hP hD hS (lv_sub hl [1, 0, 2] rfl)
      unfold q7_nextShape_80 at hq
      refine lv_iload_n hx hb dX7_nextShape_80 rfl (lv_at hl 1 rfl) ?_
      refine lv_if_le (tgt := 128) hx hb dX7_nextShape_81 (by decide) (fun c14 => ?_) (fun c14 => ?_)
      · have hq := hq.1 c14
        refine lv_iconst (v := (1 : Int32)) hx hb dX7_nextShape_128 (by decide) ?_
        exact W.zret (ty := .boolean) (v := (1 : Int32)) hx hb hr rfl (fun t ht hW => ⟨⟨(1 : Int32), (m_part, m_parts), rfl, hq, Bw_mk (by rw [ht]; exact hP) (va_K.moved hW.alike hK) hD⟩, hS.F ht⟩) hS.2.2 dX7_nextShape_129
      · have hq := hq.2 c14
        refine lv_aload_n hx hb dX7_nextShape_84 rfl (lv_at hl 0 rfl) ?_
        refine va_get (D := (dC, dI)) (ci := 7) (v := .ref (ad 9)) (C := RX7) (T := TX7) (N := 16) hx hb hts uwX7 hown hK hP 0 rfl rfl 10 (by decide) (hts _ fl_X7_42) (fun _ h9 => h9) rfl dX7_nextShape_85 ?_
        refine lv_aload_n hx hb dX7_nextShape_88 rfl (lv_at hl 0 rfl) ?_
        refine va_get (D := (dC, dI)) (ci := 7) (v := .int m_parts) (C := RX7) (T := TX7) (N := 16) hx hb hts uwX7 hown hK hP 0 rfl rfl 11 (by decide) (hts _ fl_X7_95) (fun _ h9 => h9) rfl dX7_nextShape_89 ?_
        refine lv_iload_n hx hb dX7_nextShape_92 rfl (lv_at hl 1 rfl) ?_
        refine lv_iload_n hx hb dX7_nextShape_93 rfl (lv_at hl 2 rfl) ?_
        refine lv_icmp_ge (tgt := 101) hx hb dX7_nextShape_94 (by decide) (fun c15 => ?_) (fun c15 => ?_)
        · have hq := hq.1 c15
          refine lv_iload_n hx hb dX7_nextShape_101 rfl (lv_at hl 2 rfl) ?_
          exact B102 m_parts x3 x2 x3 m_part m_parts _ _ _ hq hP hD hS (lv_sub hl [0, 1, 2] rfl)
        · have hq := hq.2 c15
          refine lv_iload_n hx hb dX7_nextShape_97 rfl (lv_at hl 1 rfl) ?_
          refine lv_goto (tgt := 102) hx hb dX7_nextShape_98 (by decide) ?_
          exact B102 m_parts x2 x2 x3 m_part m_parts _ _ _ hq hP hD hS (lv_sub hl [0, 1, 2] rfl)
  have B40 : ∀ (x1 : Int32) (m_part : Nat → Int32) (m_parts : Int32) (H : Heap) (locs : List Loc) (ls : Array Slot), q7_nextShape_40 Q x1 m_part m_parts → va_P (dC, dI) vwCl (wX7 cs ad m_n m_order m_shelf m_opens m_lists m_listed m_work m_counts m_older m_products m_part m_parts m_ways m_used m_greaterNow m_countNow) H → va_D A (wX7 cs ad m_n m_order m_shelf m_opens m_lists m_listed m_work m_counts m_older m_products m_part m_parts m_ways m_used m_greaterNow m_countNow) → va_S A s.heap H locs → lv_has ls 4 [(0, .ref (ad 0)), (1, .int x1)] → W p l e ({ frames := 0, cells := 0, slots := 0, locals := 0 } : Room) s m ([.ref (ad 0)] : List Value).toArray below meth c H locs 0 0 (MQ below (va_Qi (fun (r : Int32) (u : (Nat → Int32) × Int32) => Q r u.1 u.2) (Bw (dC, dI) (KA cs) A (fun u : (Nat → Int32) × Int32 => (wX7 cs ad m_n m_order m_shelf m_opens m_lists m_listed m_work m_counts m_older m_products u.1 u.2 m_ways m_used m_greaterNow m_countNow))) A) ([.ref (ad 0)] : List Value).toArray s 0 0 A) (F0 m 40 ls []) := by
    intro x1 m_part m_parts H locs ls hq hP hD hS hl
    unfold q7_nextShape_40 at hq
    refine lv_aload_n hx hb dX7_nextShape_40 rfl (lv_at hl 0 rfl) ?_
    refine va_get (D := (dC, dI)) (ci := 7) (v := .int m_parts) (C := RX7) (T := TX7) (N := 16) hx hb hts uwX7 hown hK hP 0 rfl rfl 11 (by decide) (hts _ fl_X7_95) (fun _ h9 => h9) rfl dX7_nextShape_41 ?_
    refine lv_if_ne (tgt := 49) hx hb dX7_nextShape_44 (by decide) (fun c16 => ?_) (fun c16 => ?_)
    · have hq := hq.1 c16
      refine lv_aload_n hx hb dX7_nextShape_49 rfl (lv_at hl 0 rfl) ?_
      refine va_get (D := (dC, dI)) (ci := 7) (v := .ref (ad 9)) (C := RX7) (T := TX7) (N := 16) hx hb hts uwX7 hown hK hP 0 rfl rfl 10 (by decide) (hts _ fl_X7_42) (fun _ h9 => h9) rfl dX7_nextShape_50 ?_
      refine lv_aload_n hx hb dX7_nextShape_53 rfl (lv_at hl 0 rfl) ?_
      refine va_get (D := (dC, dI)) (ci := 7) (v := .int m_parts) (C := RX7) (T := TX7) (N := 16) hx hb hts uwX7 hown hK hP 0 rfl rfl 11 (by decide) (hts _ fl_X7_95) (fun _ h9 => h9) rfl dX7_nextShape_54 ?_
      refine lv_iconst (v := (1 : Int32)) hx hb dX7_nextShape_57 (by decide) ?_
      refine lv_isub hx hb dX7_nextShape_58 ?_
      refine lv_dup2_11 hx hb dX7_nextShape_59 rfl rfl ?_
      obtain ⟨i17, hq⟩ := hq
      refine va_iald hx hb hK hP 9 0 rfl rfl i17 dX7_nextShape_60 ?_
      refine lv_iconst (v := (1 : Int32)) hx hb dX7_nextShape_61 (by decide) ?_
      refine lv_isub hx hb dX7_nextShape_62 ?_
      obtain ⟨i18, hq⟩ := hq
      refine va_iast hx hb hK hP hD hS 9 0 rfl rfl i18 dX7_nextShape_63 (fun H locs hP hD hS => ?_)
      have hP : va_P (dC, dI) vwCl (wX7 cs ad m_n m_order m_shelf m_opens m_lists m_listed m_work m_counts m_older m_products (upd m_part (m_parts - (1 : Int32)).toNatClampNeg ((m_part (m_parts - (1 : Int32)).toNatClampNeg) - (1 : Int32))) m_parts m_ways m_used m_greaterNow m_countNow) H := hP
      have hD : va_D A (wX7 cs ad m_n m_order m_shelf m_opens m_lists m_listed m_work m_counts m_older m_products (upd m_part (m_parts - (1 : Int32)).toNatClampNeg ((m_part (m_parts - (1 : Int32)).toNatClampNeg) - (1 : Int32))) m_parts m_ways m_used m_greaterNow m_countNow) := hD
      refine lv_iload_n hx hb dX7_nextShape_64 rfl (lv_at hl 1 rfl) ?_
      refine lv_iconst (v := (1 : Int32)) hx hb dX7_nextShape_65 (by decide) ?_
      refine lv_iadd hx hb dX7_nextShape_66 ?_
      refine lv_istore_n (lv' := [(2, .int (x1 + (1 : Int32))), (0, .ref (ad 0)), (1, .int x1)]) hx hb dX7_nextShape_67 rfl hl (by decide) rfl (fun ls hl => ?_)
      refine lv_aload_n hx hb dX7_nextShape_68 rfl (lv_at hl 1 rfl) ?_
      refine va_get (D := (dC, dI)) (ci := 7) (v := .ref (ad 9)) (C := RX7) (T := TX7) (N := 16) hx hb hts uwX7 hown hK hP 0 rfl rfl 10 (by decide) (hts _ fl_X7_42) (fun _ h9 => h9) rfl dX7_nextShape_69 ?_
      refine lv_aload_n hx hb dX7_nextShape_72 rfl (lv_at hl 1 rfl) ?_
      refine va_get (D := (dC, dI)) (ci := 7) (v := .int m_parts) (C := RX7) (T := TX7) (N := 16) hx hb hts uwX7 hown hK hP 0 rfl rfl 11 (by decide) (hts _ fl_X7_95) (fun _ h9 => h9) rfl dX7_nextShape_73 ?_
      refine lv_iconst (v := (1 : Int32)) hx hb dX7_nextShape_76 (by decide) ?_
      refine lv_isub hx hb dX7_nextShape_77 ?_
      obtain ⟨i19, hq⟩ := hq
      refine va_iald hx hb hK hP 9 0 rfl rfl i19 dX7_nextShape_78 ?_
      refine lv_istore_n (lv' := [(3, .int ((upd m_part (m_parts - (1 : Int32)).toNatClampNeg ((m_part (m_parts - (1 : Int32)).toNatClampNeg) - (1 : Int32))) (m_parts - (1 : Int32)).toNatClampNeg)), (2, .int (x1 + (1 : Int32))), (0, .ref (ad 0)), (1, .int x1)]) hx hb dX7_nextShape_79 rfl hl (by decide) rfl (fun ls hl => ?_)
      obtain ⟨kf, hq⟩ := hq
      exact B80 kf (x1 + (1 : Int32)) ((upd m_part (m_parts - (1 : Int32)).toNatClampNeg ((m_part (m_parts - (1 : Int32)).toNatClampNeg) - (1 : Int32))) (m_parts - (1 : Int32)).toNatClampNeg) (upd m_part (m_parts - (1 : Int32)).toNatClampNeg ((m_part (m_parts - (1 : Int32)).toNatClampNeg) - (1 : Int32))) m_parts _ _ _ hq hP hD hS (lv_sub hl [2, 1, 0] rfl)
    · have hq := hq.2 c16
      refine lv_iconst (v := (0 : Int32)) hx hb dX7_nextShape_47 (by decide) ?_
      exact W.zret (ty := .boolean) (v := (0 : Int32)) hx hb hr rfl (fun t ht hW => ⟨⟨(0 : Int32), (m_part, m_parts), rfl, hq, Bw_mk (by rw [ht]; exact hP) (va_K.moved hW.alike hK) hD⟩, hS.F ht⟩) hS.2.2 dX7_nextShape_48
  have B2 : ∀ (k2 : Nat) (x1 : Int32) (m_part : Nat → Int32) (m_parts : Int32) (H : Heap) (locs : List Loc) (ls : Array Slot), q7_nextShape_2 Q k2 x1 m_part m_parts → va_P (dC, dI) vwCl (wX7 cs ad m_n m_order m_shelf m_opens m_lists m_listed m_work m_counts m_older m_products m_part m_parts m_ways m_used m_greaterNow m_countNow) H → va_D A (wX7 cs ad m_n m_order m_shelf m_opens m_lists m_listed m_work m_counts m_older m_products m_part m_parts m_ways m_used m_greaterNow m_countNow) → va_S A s.heap H locs → lv_has ls 4 [(0, .ref (ad 0)), (1, .int x1)] → W p l e ({ frames := 0, cells := 0, slots := 0, locals := 0 } : Room) s m ([.ref (ad 0)] : List Value).toArray below meth c H locs 0 0 (MQ below (va_Qi (fun (r : Int32) (u : (Nat → Int32) × Int32) => Q r u.1 u.2) (Bw (dC, dI) (KA cs) A (fun u : (Nat → Int32) × Int32 => (wX7 cs ad m_n m_order m_shelf m_opens m_lists m_listed m_work m_counts m_older m_products u.1 u.2 m_ways m_used m_greaterNow m_countNow))) A) ([.ref (ad 0)] : List Value).toArray s 0 0 A) (F0 m 2 ls []) := by
    intro k2
    induction k2 with
    | zero => intro x1 m_part m_parts H locs ls hq; exact False.elim hq
    | succ k2 ih2 =>
      intro x1 m_part m_parts H locs ls hq hP hD hS hl
      unfold q7_nextShape_2 at hq
      refine lv_aload_n hx hb dX7_nextShape_2 rfl (lv_at hl 0 rfl) ?_
      refine va_get (D := (dC, dI)) (ci := 7) (v := .int m_parts) (C := RX7) (T := TX7) (N := 16) hx hb hts uwX7 hown hK hP 0 rfl rfl 11 (by decide) (hts _ fl_X7_95) (fun _ h9 => h9) rfl dX7_nextShape_3 ?_
      refine lv_if_le (tgt := 40) hx hb dX7_nextShape_6 (by decide) (fun c20 => ?_) (fun c20 => ?_)
      · have hq := hq.1 c20
        exact B40 x1 m_part m_parts _ _ _ hq hP hD hS (lv_sub hl [0, 1] rfl)
      · have hq := hq.2 c20
        refine lv_aload_n hx hb dX7_nextShape_9 rfl (lv_at hl 0 rfl) ?_
        refine va_get (D := (dC, dI)) (ci := 7) (v := .ref (ad 9)) (C := RX7) (T := TX7) (N := 16) hx hb hts uwX7 hown hK hP 0 rfl rfl 10 (by decide) (hts _ fl_X7_42) (fun _ h9 => h9) rfl dX7_nextShape_10 ?_
        refine lv_aload_n hx hb dX7_nextShape_13 rfl (lv_at hl 0 rfl) ?_
        refine va_get (D := (dC, dI)) (ci := 7) (v := .int m_parts) (C := RX7) (T := TX7) (N := 16) hx hb hts uwX7 hown hK hP 0 rfl rfl 11 (by decide) (hts _ fl_X7_95) (fun _ h9 => h9) rfl dX7_nextShape_14 ?_
        refine lv_iconst (v := (1 : Int32)) hx hb dX7_nextShape_17 (by decide) ?_
        refine lv_isub hx hb dX7_nextShape_18 ?_
        obtain ⟨i21, hq⟩ := hq
        refine va_iald hx hb hK hP 9 0 rfl rfl i21 dX7_nextShape_19 ?_
        refine lv_iconst (v := (1 : Int32)) hx hb dX7_nextShape_20 (by decide) ?_
        refine lv_icmp_ne (tgt := 40) hx hb dX7_nextShape_21 (by decide) (fun c22 => ?_) (fun c22 => ?_)
        · have hq := hq.1 c22
          exact B40 x1 m_part m_parts _ _ _ hq hP hD hS (lv_sub hl [0, 1] rfl)
        · have hq := hq.2 c22
          refine lv_aload_n hx hb dX7_nextShape_24 rfl (lv_at hl 0 rfl) ?_
          refine lv_dup hx hb dX7_nextShape_25 rfl ?_
          refine va_get (D := (dC, dI)) (ci := 7) (v := .int m_parts) (C := RX7) (T := TX7) (N := 16) hx hb hts uwX7 hown hK hP 0 rfl rfl 11 (by decide) (hts _ fl_X7_95) (fun _ h9 => h9) rfl dX7_nextShape_26 ?_
          refine lv_iconst (v := (1 : Int32)) hx hb dX7_nextShape_29 (by decide) ?_
          refine lv_isub hx hb dX7_nextShape_30 ?_
          refine va_put (D := (dC, dI)) (ci := 7) (v := .int (m_parts - (1 : Int32))) (ty := .int) (C := RX7) (T := TX7) (N := 16) hx hb hts uwX7 tyX7 tyX7_ok nmX7 hown hK hP hD hS 0 rfl rfl 11 (by decide) (hts _ fl_X7_95) (fun _ h9 => h9) rfl (by decide +kernel) rfl rfl (Nat.le_of_ble_eq_true rfl) dX7_nextShape_31 (fun H locs hP hD hS => ?_)
          have hP : va_P (dC, dI) vwCl (wX7 cs ad m_n m_order m_shelf m_opens m_lists m_listed m_work m_counts m_older m_products m_part (m_parts - (1 : Int32)) m_ways m_used m_greaterNow m_countNow) H := hP
          have hD : va_D A (wX7 cs ad m_n m_order m_shelf m_opens m_lists m_listed m_work m_counts m_older m_products m_part (m_parts - (1 : Int32)) m_ways m_used m_greaterNow m_countNow) := hD
          refine lv_iinc (v := (x1 + (1 : Int32))) (lv' := [(1, .int (x1 + (1 : Int32))), (0, .ref (ad 0))]) hx hb dX7_nextShape_34 hl (k := 1) rfl (by rfl) (by decide) rfl (fun ls hl => ?_)
          refine lv_goto (tgt := 2) hx hb dX7_nextShape_37 (by decide) ?_
          exact ih2 (x1 + (1 : Int32)) m_part (m_parts - (1 : Int32)) _ _ _ hq hP hD hS (lv_sub hl [1, 0] rfl)
  unfold q7_nextShape at hq
  refine lv_iconst (v := (0 : Int32)) hx hb dX7_nextShape_0 (by decide) ?_
  refine lv_istore_n (lv' := [(1, .int (0 : Int32)), (0, .ref (ad 0))]) hx hb dX7_nextShape_1 rfl hl (by decide) rfl (fun ls hl => ?_)
  obtain ⟨kf, hq⟩ := hq
  exact B2 kf (0 : Int32) m_part m_parts _ _ _ hq hP hD hS (lv_sub hl [1, 0] rfl)
set_option maxHeartbeats 4000000 in
set_option maxRecDepth 100000 in
theorem c7_byRounds (l : Launch) (dC : Nat → ClassId) (dI : Nat → Nat → Nat) (cs : Nat → ClassId) (ad : Nat → Nat) (m_n : Int32) (m_order : Nat → Int32) (m_shelf : Nat → Int32) (m_opens : Int32) (m_lists : Nat → Int32) (m_listed : Nat → Int32) (m_work : Nat → Int32) (m_counts : Nat → Int64) (m_older : Nat → Int64) (m_products : Nat → Int64) (m_part : Nat → Int32) (m_parts : Int32) (m_ways : Nat → Int64) (m_used : Int32) (m_greaterNow : Int32) (m_countNow : Int32) {Q : Int64 → Prop} (hq : q7_byRounds m_n m_products m_part m_parts Q) : Met l yX7_byRounds (.code yX7_byRounds cX7_byRounds 5 (some .long) :: gt) ({ frames := 0, cells := 0, slots := 0, locals := 0 } : Room) (va_Pc [.ref (ad 0)] (Pr (dC, dI) (KA cs) (wX7 cs ad m_n m_order m_shelf m_opens m_lists m_listed m_work m_counts m_older m_products m_part m_parts m_ways m_used m_greaterNow m_countNow))) (vp_Sl Q) 0 0 (fun _ => False) := by
  refine Met.ofW (cc := cX7_byRounds) (maxL := 5) (ret := (some .long)) (by decide) rfl ?_
  intro p e s m args below meth c s₁ B hml hv
  obtain ⟨rfl, hP, hK, hN⟩ := hv
  have hx := B.exec
  have hb := B.bytes
  have hr := B.returns
  have hts0 := atoms_spec (ws := (.code yX7_byRounds cX7_byRounds 5 (some .long) :: gt)) B.pre
  have hts : ∀ w ∈ gt, w.before _ s = true := fun w h => hts0 w (List.mem_cons_of_mem _ h)
  have hown : s.vm.findClass RX7 = some m.cls := findClass_of_methodNamed B.named
  have hlocks := B.notSynchronized
  have hl := lv_entry ([.ref (ad 0)]) (n := 5) (Nat.le_of_ble_eq_true rfl)
  rw [lg_entry_eq]
  generalize (lg_sl ([.ref (ad 0)]) ++ List.replicate (5 - (lg_sl ([.ref (ad 0)])).length) Slot.unset).toArray = ls at hl ⊢
  have hl : lv_has ls 5 [(0, .ref (ad 0))] := hl
  have B15 : ∀ (k15 : Nat) (x1 : Int64) (x3 : Int32) (x4 : Int32) (ls : Array Slot), q7_byRounds_15 m_n m_products m_part m_parts Q k15 x1 x3 x4 → lv_has ls 5 [(0, .ref (ad 0)), (1, .long x1), (3, .int x3), (4, .int x4)] → W p l e ({ frames := 0, cells := 0, slots := 0, locals := 0 } : Room) s m ([.ref (ad 0)] : List Value).toArray below meth c s.heap [] 0 0 (MQ below (vp_Sl Q) ([.ref (ad 0)] : List Value).toArray s 0 0 (fun _ => False)) (F0 m 15 ls []) := by
    intro k15
    induction k15 with
    | zero => intro x1 x3 x4 ls hq; exact False.elim hq
    | succ k15 ih15 =>
      intro x1 x3 x4 ls hq hl
      have B55 : ∀ (s0 : Int32) (x1 : Int64) (x4 : Int32) (ls : Array Slot), q7_byRounds_55 m_n m_products m_part m_parts (fun v0 v1 v2 => q7_byRounds_15 m_n m_products m_part m_parts Q k15 v0 v1 v2) Q s0 x1 x4 → lv_has ls 5 [(0, .ref (ad 0)), (1, .long x1), (4, .int x4)] → W p l e ({ frames := 0, cells := 0, slots := 0, locals := 0 } : Room) s m ([.ref (ad 0)] : List Value).toArray below meth c s.heap [] 0 0 (MQ below (vp_Sl Q) ([.ref (ad 0)] : List Value).toArray s 0 0 (fun _ => False)) (F0 m 55 ls [.int s0]) := by
        intro s0 x1 x4 ls hq hl
        unfold q7_byRounds_55 at hq
        refine lv_istore_n (lv' := [(3, .int s0), (0, .ref (ad 0)), (1, .long x1), (4, .int x4)]) hx hb dX7_byRounds_55 rfl hl (by decide) rfl (fun ls hl => ?_)
        refine lv_lload_n hx hb dX7_byRounds_56 rfl (lv_at hl 2 rfl) ?_
        refine lv_aload_n hx hb dX7_byRounds_57 rfl (lv_at hl 1 rfl) ?_
        refine va_get (D := (dC, dI)) (ci := 7) (v := .ref (ad 9)) (C := RX7) (T := TX7) (N := 16) hx hb hts uwX7 hown hK hP 0 rfl rfl 10 (by decide) (hts _ fl_X7_42) (fun _ h9 => h9) rfl dX7_byRounds_58 ?_
        refine lv_iload hx hb dX7_byRounds_61 (lv_at hl 3 rfl) ?_
        obtain ⟨i10, hq⟩ := hq
        refine va_iald hx hb hK hP 9 0 rfl rfl i10 dX7_byRounds_63 ?_
        refine lv_i2l (v := (m_part x4.toNatClampNeg).toInt64) hx hb dX7_byRounds_64 rfl ?_
        obtain ⟨z11, hq⟩ := hq
        refine lv_ldiv hx hb dX7_byRounds_65 z11 ?_
        refine lv_iload_n hx hb dX7_byRounds_66 rfl (lv_at hl 0 rfl) ?_
        refine lv_i2l (v := s0.toInt64) hx hb dX7_byRounds_67 rfl ?_
        obtain ⟨z12, hq⟩ := hq
        refine lv_ldiv hx hb dX7_byRounds_68 z12 ?_
        refine lv_lstore_n (lv' := [(1, .long ((x1 / (m_part x4.toNatClampNeg).toInt64) / s0.toInt64)), (3, .int s0), (0, .ref (ad 0)), (4, .int x4)]) hx hb dX7_byRounds_69 rfl hl (by decide) rfl (fun ls hl => ?_)
        refine lv_iinc (v := (x4 + (1 : Int32))) (lv' := [(4, .int (x4 + (1 : Int32))), (1, .long ((x1 / (m_part x4.toNatClampNeg).toInt64) / s0.toInt64)), (3, .int s0), (0, .ref (ad 0))]) hx hb dX7_byRounds_70 hl (k := 3) rfl (by rfl) (by decide) rfl (fun ls hl => ?_)
        refine lv_goto (tgt := 15) hx hb dX7_byRounds_73 (by decide) ?_
        exact ih15 ((x1 / (m_part x4.toNatClampNeg).toInt64) / s0.toInt64) s0 (x4 + (1 : Int32)) _ hq (lv_sub hl [3, 1, 2, 0] rfl)
      unfold q7_byRounds_15 at hq
      refine lv_iload hx hb dX7_byRounds_15 (lv_at hl 3 rfl) ?_
      refine lv_aload_n hx hb dX7_byRounds_17 rfl (lv_at hl 0 rfl) ?_
      refine va_get (D := (dC, dI)) (ci := 7) (v := .int m_parts) (C := RX7) (T := TX7) (N := 16) hx hb hts uwX7 hown hK hP 0 rfl rfl 11 (by decide) (hts _ fl_X7_95) (fun _ h9 => h9) rfl dX7_byRounds_18 ?_
      refine lv_icmp_ge (tgt := 76) hx hb dX7_byRounds_21 (by decide) (fun c13 => ?_) (fun c13 => ?_)
      · have hq := hq.1 c13
        refine lv_lload_n hx hb dX7_byRounds_76 rfl (lv_at hl 1 rfl) ?_
        exact W.lret (v := x1) hx hb hr (fun t ht hW => ⟨x1, rfl, hq, ht⟩) (fun q h => absurd h List.not_mem_nil) dX7_byRounds_77
      · have hq := hq.2 c13
        refine lv_iload hx hb dX7_byRounds_24 (lv_at hl 3 rfl) ?_
        refine lv_if_le (tgt := 54) hx hb dX7_byRounds_26 (by decide) (fun c14 => ?_) (fun c14 => ?_)
        · have hq := hq.1 c14
          refine lv_iconst (v := (1 : Int32)) hx hb dX7_byRounds_54 (by decide) ?_
          exact B55 (1 : Int32) x1 x4 _ hq (lv_sub hl [0, 1, 3] rfl)
        · have hq := hq.2 c14
          refine lv_aload_n hx hb dX7_byRounds_29 rfl (lv_at hl 0 rfl) ?_
          refine va_get (D := (dC, dI)) (ci := 7) (v := .ref (ad 9)) (C := RX7) (T := TX7) (N := 16) hx hb hts uwX7 hown hK hP 0 rfl rfl 10 (by decide) (hts _ fl_X7_42) (fun _ h9 => h9) rfl dX7_byRounds_30 ?_
          refine lv_iload hx hb dX7_byRounds_33 (lv_at hl 3 rfl) ?_
          obtain ⟨i15, hq⟩ := hq
          refine va_iald hx hb hK hP 9 0 rfl rfl i15 dX7_byRounds_35 ?_
          refine lv_aload_n hx hb dX7_byRounds_36 rfl (lv_at hl 0 rfl) ?_
          refine va_get (D := (dC, dI)) (ci := 7) (v := .ref (ad 9)) (C := RX7) (T := TX7) (N := 16) hx hb hts uwX7 hown hK hP 0 rfl rfl 10 (by decide) (hts _ fl_X7_42) (fun _ h9 => h9) rfl dX7_byRounds_37 ?_
          refine lv_iload hx hb dX7_byRounds_40 (lv_at hl 3 rfl) ?_
          refine lv_iconst (v := (1 : Int32)) hx hb dX7_byRounds_42 (by decide) ?_
          refine lv_isub hx hb dX7_byRounds_43 ?_
          obtain ⟨i16, hq⟩ := hq
          refine va_iald hx hb hK hP 9 0 rfl rfl i16 dX7_byRounds_44 ?_
          refine lv_icmp_ne (tgt := 54) hx hb dX7_byRounds_45 (by decide) (fun c17 => ?_) (fun c17 => ?_)
          · have hq := hq.1 c17
            refine lv_iconst (v := (1 : Int32)) hx hb dX7_byRounds_54 (by decide) ?_
            exact B55 (1 : Int32) x1 x4 _ hq (lv_sub hl [0, 1, 3] rfl)
          · have hq := hq.2 c17
            refine lv_iload_n hx hb dX7_byRounds_48 rfl (lv_at hl 2 rfl) ?_
            refine lv_iconst (v := (1 : Int32)) hx hb dX7_byRounds_49 (by decide) ?_
            refine lv_iadd hx hb dX7_byRounds_50 ?_
            refine lv_goto (tgt := 55) hx hb dX7_byRounds_51 (by decide) ?_
            exact B55 (x3 + (1 : Int32)) x1 x4 _ hq (lv_sub hl [0, 1, 3] rfl)
  unfold q7_byRounds at hq
  refine lv_aload_n hx hb dX7_byRounds_0 rfl (lv_at hl 0 rfl) ?_
  refine va_get (D := (dC, dI)) (ci := 7) (v := .ref (ad 8)) (C := RX7) (T := TX7) (N := 16) hx hb hts uwX7 hown hK hP 0 rfl rfl 9 (by decide) (hts _ fl_X7_39) (fun _ h9 => h9) rfl dX7_byRounds_1 ?_
  refine lv_aload_n hx hb dX7_byRounds_4 rfl (lv_at hl 0 rfl) ?_
  refine va_get (D := (dC, dI)) (ci := 7) (v := .int m_n) (C := RX7) (T := TX7) (N := 16) hx hb hts uwX7 hown hK hP 0 rfl rfl 0 (by decide) (hts _ fl_X7_7) (fun _ h9 => h9) rfl dX7_byRounds_5 ?_
  obtain ⟨i18, hq⟩ := hq
  refine va_lald hx hb hK hP 8 1 rfl rfl i18 dX7_byRounds_8 ?_
  refine lv_lstore_n (lv' := [(1, .long (m_products m_n.toNatClampNeg)), (0, .ref (ad 0))]) hx hb dX7_byRounds_9 rfl hl (by decide) rfl (fun ls hl => ?_)
  refine lv_iconst (v := (0 : Int32)) hx hb dX7_byRounds_10 (by decide) ?_
  refine lv_istore_n (lv' := [(3, .int (0 : Int32)), (1, .long (m_products m_n.toNatClampNeg)), (0, .ref (ad 0))]) hx hb dX7_byRounds_11 rfl hl (by decide) rfl (fun ls hl => ?_)
  refine lv_iconst (v := (0 : Int32)) hx hb dX7_byRounds_12 (by decide) ?_
  refine lv_istore (lv' := [(4, .int (0 : Int32)), (3, .int (0 : Int32)), (1, .long (m_products m_n.toNatClampNeg)), (0, .ref (ad 0))]) hx hb dX7_byRounds_13 hl (by decide) rfl (fun ls hl => ?_)
  obtain ⟨kf, hq⟩ := hq
  exact B15 kf (m_products m_n.toNatClampNeg) (0 : Int32) (0 : Int32) _ hq (lv_sub hl [3, 2, 1, 0] rfl)
set_option maxHeartbeats 4000000 in
set_option maxRecDepth 100000 in
theorem c7_byFillings (l : Launch) (dC : Nat → ClassId) (dI : Nat → Nat → Nat) (cs : Nat → ClassId) (ad : Nat → Nat) (m_n : Int32) (m_order : Nat → Int32) (m_shelf : Nat → Int32) (m_opens : Int32) (m_lists : Nat → Int32) (m_listed : Nat → Int32) (m_work : Nat → Int32) (m_counts : Nat → Int64) (m_older : Nat → Int64) (m_products : Nat → Int64) (m_part : Nat → Int32) (m_parts : Int32) (m_ways : Nat → Int64) (m_used : Int32) (m_greaterNow : Int32) (m_countNow : Int32) {Q : Int64 → Prop} (hq : q7_byFillings m_n m_products m_part m_parts Q) : Met l yX7_byFillings (.code yX7_byFillings cX7_byFillings 7 (some .long) :: gt) ({ frames := 0, cells := 0, slots := 0, locals := 0 } : Room) (va_Pc [.ref (ad 0)] (Pr (dC, dI) (KA cs) (wX7 cs ad m_n m_order m_shelf m_opens m_lists m_listed m_work m_counts m_older m_products m_part m_parts m_ways m_used m_greaterNow m_countNow))) (vp_Sl Q) 0 0 (fun _ => False) := by
  refine Met.ofW (cc := cX7_byFillings) (maxL := 7) (ret := (some .long)) (by decide) rfl ?_
  intro p e s m args below meth c s₁ B hml hv
  obtain ⟨rfl, hP, hK, hN⟩ := hv
  have hx := B.exec
  have hb := B.bytes
  have hr := B.returns
  have hts0 := atoms_spec (ws := (.code yX7_byFillings cX7_byFillings 7 (some .long) :: gt)) B.pre
  have hts : ∀ w ∈ gt, w.before _ s = true := fun w h => hts0 w (List.mem_cons_of_mem _ h)
  have hown : s.vm.findClass RX7 = some m.cls := findClass_of_methodNamed B.named
  have hlocks := B.notSynchronized
  have hl := lv_entry ([.ref (ad 0)]) (n := 7) (Nat.le_of_ble_eq_true rfl)
  rw [lg_entry_eq]
  generalize (lg_sl ([.ref (ad 0)]) ++ List.replicate (7 - (lg_sl ([.ref (ad 0)])).length) Slot.unset).toArray = ls at hl ⊢
  have hl : lv_has ls 7 [(0, .ref (ad 0))] := hl
  have B99 : ∀ (x1 : Int64) (ls : Array Slot), q7_byFillings_99 m_n m_products m_part m_parts Q x1 → lv_has ls 7 [(0, .ref (ad 0)), (1, .long x1)] → W p l e ({ frames := 0, cells := 0, slots := 0, locals := 0 } : Room) s m ([.ref (ad 0)] : List Value).toArray below meth c s.heap [] 0 0 (MQ below (vp_Sl Q) ([.ref (ad 0)] : List Value).toArray s 0 0 (fun _ => False)) (F0 m 99 ls []) := by
    intro x1 ls hq hl
    unfold q7_byFillings_99 at hq
    refine lv_aload_n hx hb dX7_byFillings_99 rfl (lv_at hl 0 rfl) ?_
    refine va_get (D := (dC, dI)) (ci := 7) (v := .ref (ad 8)) (C := RX7) (T := TX7) (N := 16) hx hb hts uwX7 hown hK hP 0 rfl rfl 9 (by decide) (hts _ fl_X7_39) (fun _ h9 => h9) rfl dX7_byFillings_100 ?_
    refine lv_aload_n hx hb dX7_byFillings_103 rfl (lv_at hl 0 rfl) ?_
    refine va_get (D := (dC, dI)) (ci := 7) (v := .int m_n) (C := RX7) (T := TX7) (N := 16) hx hb hts uwX7 hown hK hP 0 rfl rfl 0 (by decide) (hts _ fl_X7_7) (fun _ h9 => h9) rfl dX7_byFillings_104 ?_
    obtain ⟨i10, hq⟩ := hq
    refine va_lald hx hb hK hP 8 1 rfl rfl i10 dX7_byFillings_107 ?_
    refine lv_lload_n hx hb dX7_byFillings_108 rfl (lv_at hl 1 rfl) ?_
    obtain ⟨z11, hq⟩ := hq
    refine lv_ldiv hx hb dX7_byFillings_109 z11 ?_
    refine lv_lstore_n (lv' := [(3, .long ((m_products m_n.toNatClampNeg) / x1)), (0, .ref (ad 0)), (1, .long x1)]) hx hb dX7_byFillings_110 rfl hl (by decide) rfl (fun ls hl => ?_)
    refine lv_lload_n hx hb dX7_byFillings_111 rfl (lv_at hl 0 rfl) ?_
    refine lv_lload_n hx hb dX7_byFillings_112 rfl (lv_at hl 0 rfl) ?_
    refine lv_lmul hx hb dX7_byFillings_113 ?_
    exact W.lret (v := (((m_products m_n.toNatClampNeg) / x1) * ((m_products m_n.toNatClampNeg) / x1))) hx hb hr (fun t ht hW => ⟨(((m_products m_n.toNatClampNeg) / x1) * ((m_products m_n.toNatClampNeg) / x1)), rfl, hq, ht⟩) (fun q h => absurd h List.not_mem_nil) dX7_byFillings_114
  have B4 : ∀ (k4 : Nat) (x1 : Int64) (x3 : Int32) (ls : Array Slot), q7_byFillings_4 m_n m_products m_part m_parts Q k4 x1 x3 → lv_has ls 7 [(0, .ref (ad 0)), (1, .long x1), (3, .int x3)] → W p l e ({ frames := 0, cells := 0, slots := 0, locals := 0 } : Room) s m ([.ref (ad 0)] : List Value).toArray below meth c s.heap [] 0 0 (MQ below (vp_Sl Q) ([.ref (ad 0)] : List Value).toArray s 0 0 (fun _ => False)) (F0 m 4 ls []) := by
    intro k4
    induction k4 with
    | zero => intro x1 x3 ls hq; exact False.elim hq
    | succ k4 ih4 =>
      intro x1 x3 ls hq hl
      have B93 : ∀ (x1 : Int64) (x3 : Int32) (ls : Array Slot), q7_byFillings_93 m_n m_products m_part m_parts (fun v0 v1 => q7_byFillings_4 m_n m_products m_part m_parts Q k4 v0 v1) Q x1 x3 → lv_has ls 7 [(0, .ref (ad 0)), (1, .long x1), (3, .int x3)] → W p l e ({ frames := 0, cells := 0, slots := 0, locals := 0 } : Room) s m ([.ref (ad 0)] : List Value).toArray below meth c s.heap [] 0 0 (MQ below (vp_Sl Q) ([.ref (ad 0)] : List Value).toArray s 0 0 (fun _ => False)) (F0 m 93 ls []) := by
        intro x1 x3 ls hq hl
        unfold q7_byFillings_93 at hq
        refine lv_iinc (v := (x3 + (1 : Int32))) (lv' := [(3, .int (x3 + (1 : Int32))), (0, .ref (ad 0)), (1, .long x1)]) hx hb dX7_byFillings_93 hl (k := 2) rfl (by rfl) (by decide) rfl (fun ls hl => ?_)
        refine lv_goto (tgt := 4) hx hb dX7_byFillings_96 (by decide) ?_
        exact ih4 x1 (x3 + (1 : Int32)) _ hq (lv_sub hl [1, 2, 0] rfl)
      have B15 : ∀ (k15 : Nat) (x1 : Int64) (x3 : Int32) (x4 : Int32) (ls : Array Slot), q7_byFillings_15 m_n m_products m_part m_parts (fun v0 v1 => q7_byFillings_4 m_n m_products m_part m_parts Q k4 v0 v1) Q k15 x1 x3 x4 → lv_has ls 7 [(0, .ref (ad 0)), (1, .long x1), (3, .int x3), (4, .int x4)] → W p l e ({ frames := 0, cells := 0, slots := 0, locals := 0 } : Room) s m ([.ref (ad 0)] : List Value).toArray below meth c s.heap [] 0 0 (MQ below (vp_Sl Q) ([.ref (ad 0)] : List Value).toArray s 0 0 (fun _ => False)) (F0 m 15 ls []) := by
        intro k15
        induction k15 with
        | zero => intro x1 x3 x4 ls hq; exact False.elim hq
        | succ k15 ih15 =>
          intro x1 x3 x4 ls hq hl
          have B71 : ∀ (x1 : Int64) (x3 : Int32) (x4 : Int32) (x5 : Int32) (ls : Array Slot), q7_byFillings_71 m_n m_products m_part m_parts (fun v0 v1 => q7_byFillings_4 m_n m_products m_part m_parts Q k4 v0 v1) (fun v0 v1 v2 => q7_byFillings_15 m_n m_products m_part m_parts (fun v0 v1 => q7_byFillings_4 m_n m_products m_part m_parts Q k4 v0 v1) Q k15 v0 v1 v2) Q x1 x3 x4 x5 → lv_has ls 7 [(0, .ref (ad 0)), (1, .long x1), (3, .int x3), (4, .int x4), (5, .int x5)] → W p l e ({ frames := 0, cells := 0, slots := 0, locals := 0 } : Room) s m ([.ref (ad 0)] : List Value).toArray below meth c s.heap [] 0 0 (MQ below (vp_Sl Q) ([.ref (ad 0)] : List Value).toArray s 0 0 (fun _ => False)) (F0 m 71 ls []) := by
            intro x1 x3 x4 x5 ls hq hl
            unfold q7_byFillings_71 at hq
            refine lv_lload_n hx hb dX7_byFillings_71 rfl (lv_at hl 1 rfl) ?_
            refine lv_aload_n hx hb dX7_byFillings_72 rfl (lv_at hl 0 rfl) ?_
            refine va_get (D := (dC, dI)) (ci := 7) (v := .ref (ad 9)) (C := RX7) (T := TX7) (N := 16) hx hb hts uwX7 hown hK hP 0 rfl rfl 10 (by decide) (hts _ fl_X7_42) (fun _ h9 => h9) rfl dX7_byFillings_73 ?_
            refine lv_iload_n hx hb dX7_byFillings_76 rfl (lv_at hl 2 rfl) ?_
            obtain ⟨i12, hq⟩ := hq
            refine va_iald hx hb hK hP 9 0 rfl rfl i12 dX7_byFillings_77 ?_
            refine lv_iload hx hb dX7_byFillings_78 (lv_at hl 3 rfl) ?_
            refine lv_isub hx hb dX7_byFillings_80 ?_
            refine lv_iload hx hb dX7_byFillings_81 (lv_at hl 4 rfl) ?_
            refine lv_iadd hx hb dX7_byFillings_83 ?_
            refine lv_i2l (v := (((m_part x3.toNatClampNeg) - x4) + x5).toInt64) hx hb dX7_byFillings_84 rfl ?_
            refine lv_lmul hx hb dX7_byFillings_85 ?_
            refine lv_lstore_n (lv' := [(1, .long (x1 * (((m_part x3.toNatClampNeg) - x4) + x5).toInt64)), (0, .ref (ad 0)), (3, .int x3), (4, .int x4), (5, .int x5)]) hx hb dX7_byFillings_86 rfl hl (by decide) rfl (fun ls hl => ?_)
            refine lv_iinc (v := (x4 + (1 : Int32))) (lv' := [(4, .int (x4 + (1 : Int32))), (1, .long (x1 * (((m_part x3.toNatClampNeg) - x4) + x5).toInt64)), (0, .ref (ad 0)), (3, .int x3), (5, .int x5)]) hx hb dX7_byFillings_87 hl (k := 3) rfl (by rfl) (by decide) rfl (fun ls hl => ?_)
            refine lv_goto (tgt := 15) hx hb dX7_byFillings_90 (by decide) ?_
            exact ih15 (x1 * (((m_part x3.toNatClampNeg) - x4) + x5).toInt64) x3 (x4 + (1 : Int32)) _ hq (lv_sub hl [2, 1, 3, 0] rfl)
          have B34 : ∀ (k34 : Nat) (x1 : Int64) (x3 : Int32) (x4 : Int32) (x5 : Int32) (x6 : Int32) (ls : Array Slot), q7_byFillings_34 m_n m_products m_part m_parts (fun v0 v1 => q7_byFillings_4 m_n m_products m_part m_parts Q k4 v0 v1) (fun v0 v1 v2 => q7_byFillings_15 m_n m_products m_part m_parts (fun v0 v1 => q7_byFillings_4 m_n m_products m_part m_parts Q k4 v0 v1) Q k15 v0 v1 v2) Q k34 x1 x3 x4 x5 x6 → lv_has ls 7 [(0, .ref (ad 0)), (1, .long x1), (3, .int x3), (4, .int x4), (5, .int x5), (6, .int x6)] → W p l e ({ frames := 0, cells := 0, slots := 0, locals := 0 } : Room) s m ([.ref (ad 0)] : List Value).toArray below meth c s.heap [] 0 0 (MQ below (vp_Sl Q) ([.ref (ad 0)] : List Value).toArray s 0 0 (fun _ => False)) (F0 m 34 ls []) := by
            intro k34
            induction k34 with
            | zero => intro x1 x3 x4 x5 x6 ls hq; exact False.elim hq
            | succ k34 ih34 =>
              intro x1 x3 x4 x5 x6 ls hq hl
              have B62 : ∀ (s0 : Int32) (s1 : Int32) (x1 : Int64) (x3 : Int32) (x4 : Int32) (x6 : Int32) (ls : Array Slot), q7_byFillings_62 m_n m_products m_part m_parts (fun v0 v1 => q7_byFillings_4 m_n m_products m_part m_parts Q k4 v0 v1) (fun v0 v1 v2 => q7_byFillings_15 m_n m_products m_part m_parts (fun v0 v1 => q7_byFillings_4 m_n m_products m_part m_parts Q k4 v0 v1) Q k15 v0 v1 v2) (fun v0 v1 v2 v3 v4 => q7_byFillings_34 m_n m_products m_part m_parts (fun v0 v1 => q7_byFillings_4 m_n m_products m_part m_parts Q k4 v0 v1) (fun v0 v1 v2 => q7_byFillings_15 m_n m_products m_part m_parts (fun v0 v1 => q7_byFillings_4 m_n m_products m_part m_parts Q k4 v0 v1) Q k15 v0 v1 v2) Q k34 v0 v1 v2 v3 v4) Q s0 s1 x1 x3 x4 x6 → lv_has ls 7 [(0, .ref (ad 0)), (1, .long x1), (3, .int x3), (4, .int x4), (6, .int x6)] → W p l e ({ frames := 0, cells := 0, slots := 0, locals := 0 } : Room) s m ([.ref (ad 0)] : List Value).toArray below meth c s.heap [] 0 0 (MQ below (vp_Sl Q) ([.ref (ad 0)] : List Value).toArray s 0 0 (fun _ => False)) (F0 m 62 ls [.int s1, .int s0]) := by
                intro s0 s1 x1 x3 x4 x6 ls hq hl
                unfold q7_byFillings_62 at hq
                refine lv_iadd hx hb dX7_byFillings_62 ?_
                refine lv_istore (lv' := [(5, .int (s0 + s1)), (0, .ref (ad 0)), (1, .long x1), (3, .int x3), (4, .int x4), (6, .int x6)]) hx hb dX7_byFillings_63 hl (by decide) rfl (fun ls hl => ?_)
                refine lv_iinc (v := (x6 + (1 : Int32))) (lv' := [(6, .int (x6 + (1 : Int32))), (5, .int (s0 + s1)), (0, .ref (ad 0)), (1, .long x1), (3, .int x3), (4, .int x4)]) hx hb dX7_byFillings_65 hl (k := 5) rfl (by rfl) (by decide) rfl (fun ls hl => ?_)
                refine lv_goto (tgt := 34) hx hb dX7_byFillings_68 (by decide) ?_
                exact ih34 x1 x3 x4 (s0 + s1) (x6 + (1 : Int32)) _ hq (lv_sub hl [2, 3, 4, 5, 1, 0] rfl)
              unfold q7_byFillings_34 at hq
              refine lv_iload hx hb dX7_byFillings_34 (lv_at hl 5 rfl) ?_
              refine lv_aload_n hx hb dX7_byFillings_36 rfl (lv_at hl 0 rfl) ?_
              refine va_get (D := (dC, dI)) (ci := 7) (v := .int m_parts) (C := RX7) (T := TX7) (N := 16) hx hb hts uwX7 hown hK hP 0 rfl rfl 11 (by decide) (hts _ fl_X7_95) (fun _ h9 => h9) rfl dX7_byFillings_37 ?_
              refine lv_icmp_ge (tgt := 71) hx hb dX7_byFillings_40 (by decide) (fun c13 => ?_) (fun c13 => ?_)
              · have hq := hq.1 c13
                exact B71 x1 x3 x4 x5 _ hq (lv_sub hl [0, 1, 2, 3, 4] rfl)
              · have hq := hq.2 c13
                refine lv_iload hx hb dX7_byFillings_43 (lv_at hl 4 rfl) ?_
                refine lv_aload_n hx hb dX7_byFillings_45 rfl (lv_at hl 0 rfl) ?_
                refine va_get (D := (dC, dI)) (ci := 7) (v := .ref (ad 9)) (C := RX7) (T := TX7) (N := 16) hx hb hts uwX7 hown hK hP 0 rfl rfl 10 (by decide) (hts _ fl_X7_42) (fun _ h9 => h9) rfl dX7_byFillings_46 ?_
                refine lv_iload hx hb dX7_byFillings_49 (lv_at hl 5 rfl) ?_
                obtain ⟨i14, hq⟩ := hq
                refine va_iald hx hb hK hP 9 0 rfl rfl i14 dX7_byFillings_51 ?_
                refine lv_iload hx hb dX7_byFillings_52 (lv_at hl 3 rfl) ?_
                refine lv_icmp_le (tgt := 61) hx hb dX7_byFillings_54 (by decide) (fun c15 => ?_) (fun c15 => ?_)
                · have hq := hq.1 c15
                  refine lv_iconst (v := (0 : Int32)) hx hb dX7_byFillings_61 (by decide) ?_
                  exact B62 x5 (0 : Int32) x1 x3 x4 x6 _ hq (lv_sub hl [0, 1, 2, 3, 5] rfl)
                · have hq := hq.2 c15
                  refine lv_iconst (v := (1 : Int32)) hx hb dX7_byFillings_57 (by decide) ?_
                  refine lv_goto (tgt := 62) hx hb dX7_byFillings_58 (by decide) ?_
                  exact B62 x5 (1 : Int32) x1 x3 x4 x6 _ hq (lv_sub hl [0, 1, 2, 3, 5] rfl)
          unfold q7_byFillings_15 at hq
          refine lv_iload hx hb dX7_byFillings_15 (lv_at hl 3 rfl) ?_
          refine lv_aload_n hx hb dX7_byFillings_17 rfl (lv_at hl 0 rfl) ?_
          refine va_get (D := (dC, dI)) (ci := 7) (v := .ref (ad 9)) (C := RX7) (T := TX7) (N := 16) hx hb hts uwX7 hown hK hP 0 rfl rfl 10 (by decide) (hts _ fl_X7_42) (fun _ h9 => h9) rfl dX7_byFillings_18 ?_
          refine lv_iload_n hx hb dX7_byFillings_21 rfl (lv_at hl 2 rfl) ?_
          obtain ⟨i16, hq⟩ := hq
          refine va_iald hx hb hK hP 9 0 rfl rfl i16 dX7_byFillings_22 ?_
          refine lv_icmp_ge (tgt := 93) hx hb dX7_byFillings_23 (by decide) (fun c17 => ?_) (fun c17 => ?_)
          · have hq := hq.1 c17
            exact B93 x1 x3 _ hq (lv_sub hl [0, 1, 2] rfl)
          · have hq := hq.2 c17
            refine lv_iconst (v := (0 : Int32)) hx hb dX7_byFillings_26 (by decide) ?_
            refine lv_istore (lv' := [(5, .int (0 : Int32)), (0, .ref (ad 0)), (1, .long x1), (3, .int x3), (4, .int x4)]) hx hb dX7_byFillings_27 hl (by decide) rfl (fun ls hl => ?_)
            refine lv_iload_n hx hb dX7_byFillings_29 rfl (lv_at hl 3 rfl) ?_
            refine lv_iconst (v := (1 : Int32)) hx hb dX7_byFillings_30 (by decide) ?_
            refine lv_iadd hx hb dX7_byFillings_31 ?_
            refine lv_istore (lv' := [(6, .int (x3 + (1 : Int32))), (5, .int (0 : Int32)), (0, .ref (ad 0)), (1, .long x1), (3, .int x3), (4, .int x4)]) hx hb dX7_byFillings_32 hl (by decide) rfl (fun ls hl => ?_)
            obtain ⟨kf, hq⟩ := hq
            exact B34 kf x1 x3 x4 (0 : Int32) (x3 + (1 : Int32)) _ hq (lv_sub hl [2, 3, 4, 5, 1, 0] rfl)
      unfold q7_byFillings_4 at hq
      refine lv_iload_n hx hb dX7_byFillings_4 rfl (lv_at hl 2 rfl) ?_
      refine lv_aload_n hx hb dX7_byFillings_5 rfl (lv_at hl 0 rfl) ?_
      refine va_get (D := (dC, dI)) (ci := 7) (v := .int m_parts) (C := RX7) (T := TX7) (N := 16) hx hb hts uwX7 hown hK hP 0 rfl rfl 11 (by decide) (hts _ fl_X7_95) (fun _ h9 => h9) rfl dX7_byFillings_6 ?_
      refine lv_icmp_ge (tgt := 99) hx hb dX7_byFillings_9 (by decide) (fun c18 => ?_) (fun c18 => ?_)
      · have hq := hq.1 c18
        exact B99 x1 _ hq (lv_sub hl [0, 1] rfl)
      · have hq := hq.2 c18
        refine lv_iconst (v := (0 : Int32)) hx hb dX7_byFillings_12 (by decide) ?_
        refine lv_istore (lv' := [(4, .int (0 : Int32)), (0, .ref (ad 0)), (1, .long x1), (3, .int x3)]) hx hb dX7_byFillings_13 hl (by decide) rfl (fun ls hl => ?_)
        obtain ⟨kf, hq⟩ := hq
        exact B15 kf x1 x3 (0 : Int32) _ hq (lv_sub hl [1, 2, 3, 0] rfl)
  unfold q7_byFillings at hq
  refine lv_lconst (v := (1 : Int64)) hx hb dX7_byFillings_0 (by decide) ?_
  refine lv_lstore_n (lv' := [(1, .long (1 : Int64)), (0, .ref (ad 0))]) hx hb dX7_byFillings_1 rfl hl (by decide) rfl (fun ls hl => ?_)
  refine lv_iconst (v := (0 : Int32)) hx hb dX7_byFillings_2 (by decide) ?_
  refine lv_istore_n (lv' := [(3, .int (0 : Int32)), (1, .long (1 : Int64)), (0, .ref (ad 0))]) hx hb dX7_byFillings_3 rfl hl (by decide) rfl (fun ls hl => ?_)
  obtain ⟨kf, hq⟩ := hq
  exact B4 kf (1 : Int64) (0 : Int32) _ hq (lv_sub hl [2, 1, 0] rfl)
set_option maxHeartbeats 4000000 in
set_option maxRecDepth 100000 in
theorem c7_shapeNumber (l : Launch) (dC : Nat → ClassId) (dI : Nat → Nat → Nat) (cs : Nat → ClassId) (ad : Nat → Nat) (m_n : Int32) (m_order : Nat → Int32) (m_shelf : Nat → Int32) (m_opens : Int32) (m_lists : Nat → Int32) (m_listed : Nat → Int32) (m_work : Nat → Int32) (m_counts : Nat → Int64) (m_older : Nat → Int64) (m_products : Nat → Int64) (m_part : Nat → Int32) (m_parts : Int32) (m_ways : Nat → Int64) (m_used : Int32) (m_greaterNow : Int32) (m_countNow : Int32) (a1 : Int32) {Q : Int32 → Prop} (hq : q7_shapeNumber m_part m_parts a1 Q) : Met l yX7_shapeNumber (.code yX7_shapeNumber cX7_shapeNumber 6 (some .int) :: gt) ({ frames := 1, cells := 0, slots := 0, locals := 29 } : Room) (va_Pc [.ref (ad 0), .int a1] (Pr (dC, dI) (KA cs) (wX7 cs ad m_n m_order m_shelf m_opens m_lists m_listed m_work m_counts m_older m_products m_part m_parts m_ways m_used m_greaterNow m_countNow))) (vp_Si Q) 0 0 (fun _ => False) := by
  refine Met.ofW (cc := cX7_shapeNumber) (maxL := 6) (ret := (some .int)) (by decide) rfl ?_
  intro p e s m args below meth c s₁ B hml hv
  obtain ⟨rfl, hP, hK, hN⟩ := hv
  have hx := B.exec
  have hb := B.bytes
  have hr := B.returns
  have hts0 := atoms_spec (ws := (.code yX7_shapeNumber cX7_shapeNumber 6 (some .int) :: gt)) B.pre
  have hts : ∀ w ∈ gt, w.before _ s = true := fun w h => hts0 w (List.mem_cons_of_mem _ h)
  have hown : s.vm.findClass RX7 = some m.cls := findClass_of_methodNamed B.named
  have hlocks := B.notSynchronized
  have hl := lv_entry ([.ref (ad 0), .int a1]) (n := 6) (Nat.le_of_ble_eq_true rfl)
  rw [lg_entry_eq]
  generalize (lg_sl ([.ref (ad 0), .int a1]) ++ List.replicate (6 - (lg_sl ([.ref (ad 0), .int a1])).length) Slot.unset).toArray = ls at hl ⊢
  have hl : lv_has ls 6 [(0, .ref (ad 0)), (1, .int a1)] := hl
  have B65 : ∀ (x1 : Int32) (x2 : Int32) (x3 : Int64) (ls : Array Slot), q7_shapeNumber_65 m_part m_parts Q x1 x2 x3 → lv_has ls 6 [(0, .ref (ad 0)), (1, .int x1), (2, .int x2), (3, .long x3)] → W p l e ({ frames := 1, cells := 0, slots := 0, locals := 29 } : Room) s m ([.ref (ad 0), .int a1] : List Value).toArray below meth c s.heap [] 0 0 (MQ below (vp_Si Q) ([.ref (ad 0), .int a1] : List Value).toArray s 0 0 (fun _ => False)) (F0 m 65 ls []) := by
    intro x1 x2 x3 ls hq hl
    unfold q7_shapeNumber_65 at hq
    refine lv_iload_n hx hb dX7_shapeNumber_65 rfl (lv_at hl 1 rfl) ?_
    refine lv_iconst (v := (3 : Int32)) hx hb dX7_shapeNumber_66 (by decide) ?_
    refine lv_icmp_ne (tgt := 74) hx hb dX7_shapeNumber_67 (by decide) (fun c11 => ?_) (fun c11 => ?_)
    · have hq := hq.1 c11
      refine lv_iload_n hx hb dX7_shapeNumber_74 rfl (lv_at hl 1 rfl) ?_
      refine lv_bipush (v := (7 : Int32)) hx hb dX7_shapeNumber_75 (by decide) ?_
      refine lv_icmp_ne (tgt := 85) hx hb dX7_shapeNumber_77 (by decide) (fun c12 => ?_) (fun c12 => ?_)
      · have hq := hq.1 c12
        refine lv_aload_n hx hb dX7_shapeNumber_85 rfl (lv_at hl 0 rfl) ?_
        refine va_get (D := (dC, dI)) (ci := 7) (v := .ref (ad 9)) (C := RX7) (T := TX7) (N := 16) hx hb hts uwX7 hown hK hP 0 rfl rfl 10 (by decide) (hts _ fl_X7_42) (fun _ h9 => h9) rfl dX7_shapeNumber_86 ?_
        refine lv_iconst (v := (0 : Int32)) hx hb dX7_shapeNumber_89 (by decide) ?_
        obtain ⟨i13, hq⟩ := hq
        refine va_iald hx hb hK hP 9 0 rfl rfl i13 dX7_shapeNumber_90 ?_
        exact W.iret (v := (m_part (0 : Int32).toNatClampNeg)) hx hb hr (fun t ht hW => ⟨(m_part (0 : Int32).toNatClampNeg), rfl, hq, ht⟩) (fun q h => absurd h List.not_mem_nil) dX7_shapeNumber_91
      · have hq := hq.2 c12
        refine lv_lload_n hx hb dX7_shapeNumber_80 rfl (lv_at hl 3 rfl) ?_
        refine lv_l2i (v := x3.toInt32) hx hb dX7_shapeNumber_81 rfl ?_
        refine lv_goto (tgt := 91) hx hb dX7_shapeNumber_82 (by decide) ?_
        exact W.iret (v := x3.toInt32) hx hb hr (fun t ht hW => ⟨x3.toInt32, rfl, hq, ht⟩) (fun q h => absurd h List.not_mem_nil) dX7_shapeNumber_91
    · have hq := hq.2 c11
      refine lv_iload_n hx hb dX7_shapeNumber_70 rfl (lv_at hl 2 rfl) ?_
      refine lv_goto (tgt := 91) hx hb dX7_shapeNumber_71 (by decide) ?_
      exact W.iret (v := x2) hx hb hr (fun t ht hW => ⟨x2, rfl, hq, ht⟩) (fun q h => absurd h List.not_mem_nil) dX7_shapeNumber_91
  have B7 : ∀ (k7 : Nat) (x1 : Int32) (x2 : Int32) (x3 : Int64) (x5 : Int32) (ls : Array Slot), q7_shapeNumber_7 m_part m_parts Q k7 x1 x2 x3 x5 → lv_has ls 6 [(0, .ref (ad 0)), (1, .int x1), (2, .int x2), (3, .long x3), (5, .int x5)] → W p l e ({ frames := 1, cells := 0, slots := 0, locals := 29 } : Room) s m ([.ref (ad 0), .int a1] : List Value).toArray below meth c s.heap [] 0 0 (MQ below (vp_Si Q) ([.ref (ad 0), .int a1] : List Value).toArray s 0 0 (fun _ => False)) (F0 m 7 ls []) := by
    intro k7
    induction k7 with
    | zero => intro x1 x2 x3 x5 ls hq; exact False.elim hq
    | succ k7 ih7 =>
      intro x1 x2 x3 x5 ls hq hl
      have B33 : ∀ (s0 : Int32) (s1 : Int32) (x1 : Int32) (x3 : Int64) (x5 : Int32) (ls : Array Slot), q7_shapeNumber_33 m_part m_parts (fun v0 v1 v2 v3 => q7_shapeNumber_7 m_part m_parts Q k7 v0 v1 v2 v3) Q s0 s1 x1 x3 x5 → lv_has ls 6 [(0, .ref (ad 0)), (1, .int x1), (3, .long x3), (5, .int x5)] → W p l e ({ frames := 1, cells := 0, slots := 0, locals := 29 } : Room) s m ([.ref (ad 0), .int a1] : List Value).toArray below meth c s.heap [] 0 0 (MQ below (vp_Si Q) ([.ref (ad 0), .int a1] : List Value).toArray s 0 0 (fun _ => False)) (F0 m 33 ls [.int s1, .int s0]) := by
        intro s0 s1 x1 x3 x5 ls hq hl
        unfold q7_shapeNumber_33 at hq
        refine lv_iadd hx hb dX7_shapeNumber_33 ?_
        refine lv_istore_n (lv' := [(2, .int (s0 + s1)), (0, .ref (ad 0)), (1, .int x1), (3, .long x3), (5, .int x5)]) hx hb dX7_shapeNumber_34 rfl hl (by decide) rfl (fun ls hl => ?_)
        refine lv_lload_n hx hb dX7_shapeNumber_35 rfl (lv_at hl 3 rfl) ?_
        refine lv_lload_n hx hb dX7_shapeNumber_36 rfl (lv_at hl 3 rfl) ?_
        refine lv_aload_n hx hb dX7_shapeNumber_37 rfl (lv_at hl 1 rfl) ?_
        refine va_get (D := (dC, dI)) (ci := 7) (v := .ref (ad 9)) (C := RX7) (T := TX7) (N := 16) hx hb hts uwX7 hown hK hP 0 rfl rfl 10 (by decide) (hts _ fl_X7_42) (fun _ h9 => h9) rfl dX7_shapeNumber_38 ?_
        refine lv_iload hx hb dX7_shapeNumber_41 (lv_at hl 4 rfl) ?_
        obtain ⟨i14, hq⟩ := hq
        refine va_iald hx hb hK hP 9 0 rfl rfl i14 dX7_shapeNumber_43 ?_
        refine lv_i2l (v := (m_part x5.toNatClampNeg).toInt64) hx hb dX7_shapeNumber_44 rfl ?_
        refine rol (runS ⟨hx, hb, hml, hown, hts⟩ ws_X7_common ml_X7_70 (c7_common l dC dI cs   x3 ((m_part x5.toNatClampNeg).toInt64) hq) ⟨⟨rfl, rfl⟩, by decide, by decide⟩ (preR va_P_nil hK hN) hN rfl hl.1 rfl (Nat.le_of_ble_eq_true rfl) dX7_shapeNumber_45 ⟨(Nat.le_of_ble_eq_true rfl), (Nat.le_of_ble_eq_true rfl)⟩) (fun r15 hq => ?_)
        obtain ⟨z16, hq⟩ := hq
        refine lv_ldiv hx hb dX7_shapeNumber_48 z16 ?_
        refine lv_aload_n hx hb dX7_shapeNumber_49 rfl (lv_at hl 1 rfl) ?_
        refine va_get (D := (dC, dI)) (ci := 7) (v := .ref (ad 9)) (C := RX7) (T := TX7) (N := 16) hx hb hts uwX7 hown hK hP 0 rfl rfl 10 (by decide) (hts _ fl_X7_42) (fun _ h9 => h9) rfl dX7_shapeNumber_50 ?_
        refine lv_iload hx hb dX7_shapeNumber_53 (lv_at hl 4 rfl) ?_
        obtain ⟨i17, hq⟩ := hq
        refine va_iald hx hb hK hP 9 0 rfl rfl i17 dX7_shapeNumber_55 ?_
        refine lv_i2l (v := (m_part x5.toNatClampNeg).toInt64) hx hb dX7_shapeNumber_56 rfl ?_
        refine lv_lmul hx hb dX7_shapeNumber_57 ?_
        refine lv_lstore_n (lv' := [(3, .long ((x3 / r15) * (m_part x5.toNatClampNeg).toInt64)), (2, .int (s0 + s1)), (0, .ref (ad 0)), (1, .int x1), (5, .int x5)]) hx hb dX7_shapeNumber_58 rfl hl (by decide) rfl (fun ls hl => ?_)
        refine lv_iinc (v := (x5 + (1 : Int32))) (lv' := [(5, .int (x5 + (1 : Int32))), (3, .long ((x3 / r15) * (m_part x5.toNatClampNeg).toInt64)), (2, .int (s0 + s1)), (0, .ref (ad 0)), (1, .int x1)]) hx hb dX7_shapeNumber_59 hl (k := 4) rfl (by rfl) (by decide) rfl (fun ls hl => ?_)
        refine lv_goto (tgt := 7) hx hb dX7_shapeNumber_62 (by decide) ?_
        exact ih7 x1 (s0 + s1) ((x3 / r15) * (m_part x5.toNatClampNeg).toInt64) (x5 + (1 : Int32)) _ hq (lv_sub hl [3, 4, 2, 1, 0] rfl)
      unfold q7_shapeNumber_7 at hq
      refine lv_iload hx hb dX7_shapeNumber_7 (lv_at hl 4 rfl) ?_
      refine lv_aload_n hx hb dX7_shapeNumber_9 rfl (lv_at hl 0 rfl) ?_
      refine va_get (D := (dC, dI)) (ci := 7) (v := .int m_parts) (C := RX7) (T := TX7) (N := 16) hx hb hts uwX7 hown hK hP 0 rfl rfl 11 (by decide) (hts _ fl_X7_95) (fun _ h9 => h9) rfl dX7_shapeNumber_10 ?_
      refine lv_icmp_ge (tgt := 65) hx hb dX7_shapeNumber_13 (by decide) (fun c18 => ?_) (fun c18 => ?_)
      · have hq := hq.1 c18
        exact B65 x1 x2 x3 _ hq (lv_sub hl [0, 1, 2, 3] rfl)
      · have hq := hq.2 c18
        refine lv_iload_n hx hb dX7_shapeNumber_16 rfl (lv_at hl 2 rfl) ?_
        refine lv_aload_n hx hb dX7_shapeNumber_17 rfl (lv_at hl 0 rfl) ?_
        refine va_get (D := (dC, dI)) (ci := 7) (v := .ref (ad 9)) (C := RX7) (T := TX7) (N := 16) hx hb hts uwX7 hown hK hP 0 rfl rfl 10 (by decide) (hts _ fl_X7_42) (fun _ h9 => h9) rfl dX7_shapeNumber_18 ?_
        refine lv_iload hx hb dX7_shapeNumber_21 (lv_at hl 4 rfl) ?_
        obtain ⟨i19, hq⟩ := hq
        refine va_iald hx hb hK hP 9 0 rfl rfl i19 dX7_shapeNumber_23 ?_
        refine lv_iconst (v := (1 : Int32)) hx hb dX7_shapeNumber_24 (by decide) ?_
        refine lv_icmp_ne (tgt := 32) hx hb dX7_shapeNumber_25 (by decide) (fun c20 => ?_) (fun c20 => ?_)
        · have hq := hq.1 c20
          refine lv_iconst (v := (0 : Int32)) hx hb dX7_shapeNumber_32 (by decide) ?_
          exact B33 x2 (0 : Int32) x1 x3 x5 _ hq (lv_sub hl [0, 1, 3, 4] rfl)
        · have hq := hq.2 c20
          refine lv_iconst (v := (1 : Int32)) hx hb dX7_shapeNumber_28 (by decide) ?_
          refine lv_goto (tgt := 33) hx hb dX7_shapeNumber_29 (by decide) ?_
          exact B33 x2 (1 : Int32) x1 x3 x5 _ hq (lv_sub hl [0, 1, 3, 4] rfl)
  unfold q7_shapeNumber at hq
  refine lv_iconst (v := (0 : Int32)) hx hb dX7_shapeNumber_0 (by decide) ?_
  refine lv_istore_n (lv' := [(2, .int (0 : Int32)), (0, .ref (ad 0)), (1, .int a1)]) hx hb dX7_shapeNumber_1 rfl hl (by decide) rfl (fun ls hl => ?_)
  refine lv_lconst (v := (1 : Int64)) hx hb dX7_shapeNumber_2 (by decide) ?_
  refine lv_lstore_n (lv' := [(3, .long (1 : Int64)), (2, .int (0 : Int32)), (0, .ref (ad 0)), (1, .int a1)]) hx hb dX7_shapeNumber_3 rfl hl (by decide) rfl (fun ls hl => ?_)
  refine lv_iconst (v := (0 : Int32)) hx hb dX7_shapeNumber_4 (by decide) ?_
  refine lv_istore (lv' := [(5, .int (0 : Int32)), (3, .long (1 : Int64)), (2, .int (0 : Int32)), (0, .ref (ad 0)), (1, .int a1)]) hx hb dX7_shapeNumber_5 hl (by decide) rfl (fun ls hl => ?_)
  obtain ⟨kf, hq⟩ := hq
  exact B7 kf a1 (0 : Int32) (1 : Int64) (0 : Int32) _ hq (lv_sub hl [3, 4, 2, 1, 0] rfl)
set_option maxHeartbeats 4000000 in
set_option maxRecDepth 100000 in
theorem c7_countByShapes (l : Launch) (dC : Nat → ClassId) (dI : Nat → Nat → Nat) (cs : Nat → ClassId) (ad : Nat → Nat) (sz : Nat) (m_n : Int32) (m_order : Nat → Int32) (m_shelf : Nat → Int32) (m_opens : Int32) (m_lists : Nat → Int32) (m_listed : Nat → Int32) (m_work : Nat → Int32) (m_counts : Nat → Int64) (m_older : Nat → Int64) (m_products : Nat → Int64) (m_part : Nat → Int32) (m_parts : Int32) (m_ways : Nat → Int64) (m_used : Int32) (m_greaterNow : Int32) (m_countNow : Int32) (a1 : Int32) {Q : (Nat → Int64) → (Nat → Int32) → Int32 → Prop} (hq : q7_countByShapes m_n m_products m_counts m_part m_parts a1 Q) : Met l yX7_countByShapes (.code yX7_countByShapes cX7_countByShapes 3 none :: gt) ({ frames := 2, cells := 0, slots := 0, locals := 54 } : Room) (va_Pc [.ref (ad 0), .int a1] (Pw (dC, dI) (KA cs) (wX7 cs ad m_n m_order m_shelf m_opens m_lists m_listed m_work m_counts m_older m_products m_part m_parts m_ways m_used m_greaterNow m_countNow) sz)) (va_Qv (fun (u : (Nat → Int64) × (Nat → Int32) × Int32) => Q u.1 u.2.1 u.2.2) (Bw (dC, dI) (KA cs) (va_A (wX7 cs ad m_n m_order m_shelf m_opens m_lists m_listed m_work m_counts m_older m_products m_part m_parts m_ways m_used m_greaterNow m_countNow) sz) (fun u : (Nat → Int64) × (Nat → Int32) × Int32 => (wX7 cs ad m_n m_order m_shelf m_opens m_lists m_listed m_work u.1 m_older m_products u.2.1 u.2.2 m_ways m_used m_greaterNow m_countNow))) (va_A (wX7 cs ad m_n m_order m_shelf m_opens m_lists m_listed m_work m_counts m_older m_products m_part m_parts m_ways m_used m_greaterNow m_countNow) sz)) 0 0 (va_A (wX7 cs ad m_n m_order m_shelf m_opens m_lists m_listed m_work m_counts m_older m_products m_part m_parts m_ways m_used m_greaterNow m_countNow) sz) := by
  refine Met.ofW (cc := cX7_countByShapes) (maxL := 3) (ret := none) (by decide) rfl ?_
  intro p e s m args below meth c s₁ B hml hv
  obtain ⟨rfl, hsz, hP, hK, hD0, hN⟩ := hv
  have hx := B.exec
  have hb := B.bytes
  have hr := B.returns
  have hts0 := atoms_spec (ws := (.code yX7_countByShapes cX7_countByShapes 3 none :: gt)) B.pre
  have hts : ∀ w ∈ gt, w.before _ s = true := fun w h => hts0 w (List.mem_cons_of_mem _ h)
  have hown : s.vm.findClass RX7 = some m.cls := findClass_of_methodNamed B.named
  have hlocks := B.notSynchronized
  subst hsz
  have hD := hD0.self (sz := s.heap.size)
  generalize hAe : va_A (wX7 cs ad m_n m_order m_shelf m_opens m_lists m_listed m_work m_counts m_older m_products m_part m_parts m_ways m_used m_greaterNow m_countNow) s.heap.size = A at hD ⊢
  have hA : ∀ q : Nat, s.heap.size ≤ q → A q := fun q h => by rw [← hAe]; exact Or.inr h
  have hS : va_S A s.heap s.heap [] := va_S.rf
  have hl := lv_entry ([.ref (ad 0), .int a1]) (n := 3) (Nat.le_of_ble_eq_true rfl)
  rw [lg_entry_eq]
  generalize (lg_sl ([.ref (ad 0), .int a1]) ++ List.replicate (3 - (lg_sl ([.ref (ad 0), .int a1])).length) Slot.unset).toArray = ls at hl ⊢
  have hl : lv_has ls 3 [(0, .ref (ad 0)), (1, .int a1)] := hl
  have B39 : ∀ (k39 : Nat) (x1 : Int32) (x2 : Int32) (m_counts : Nat → Int64) (m_part : Nat → Int32) (m_parts : Int32) (H : Heap) (locs : List Loc) (ls : Array Slot), q7_countByShapes_39 m_n m_products Q k39 x1 x2 m_counts m_part m_parts → va_P (dC, dI) vwCl (wX7 cs ad m_n m_order m_shelf m_opens m_lists m_listed m_work m_counts m_older m_products m_part m_parts m_ways m_used m_greaterNow m_countNow) H → va_D A (wX7 cs ad m_n m_order m_shelf m_opens m_lists m_listed m_work m_counts m_older m_products m_part m_parts m_ways m_used m_greaterNow m_countNow) → va_S A s.heap H locs → lv_has ls 3 [(0, .ref (ad 0)), (1, .int x1), (2, .int x2)] → W p l e ({ frames := 2, cells := 0, slots := 0, locals := 54 } : Room) s m ([.ref (ad 0), .int a1] : List Value).toArray below meth c H locs 0 0 (MQ below (va_Qv (fun (u : (Nat → Int64) × (Nat → Int32) × Int32) => Q u.1 u.2.1 u.2.2) (Bw (dC, dI) (KA cs) A (fun u : (Nat → Int64) × (Nat → Int32) × Int32 => (wX7 cs ad m_n m_order m_shelf m_opens m_lists m_listed m_work u.1 m_older m_products u.2.1 u.2.2 m_ways m_used m_greaterNow m_countNow))) A) ([.ref (ad 0), .int a1] : List Value).toArray s 0 0 A) (F0 m 39 ls []) := by
    intro k39
    induction k39 with
    | zero => intro x1 x2 m_counts m_part m_parts H locs ls hq; exact False.elim hq
    | succ k39 ih39 =>
      intro x1 x2 m_counts m_part m_parts H locs ls hq hP hD hS hl
      have B71 : ∀ (s1 : Int32) (s2 : Int64) (s3 : Int64) (x1 : Int32) (m_counts : Nat → Int64) (m_part : Nat → Int32) (m_parts : Int32) (H : Heap) (locs : List Loc) (ls : Array Slot), q7_countByShapes_71 m_n m_products (fun v0 v1 v2 v3 v4 => q7_countByShapes_39 m_n m_products Q k39 v0 v1 v2 v3 v4) Q s1 s2 s3 x1 m_counts m_part m_parts → va_P (dC, dI) vwCl (wX7 cs ad m_n m_order m_shelf m_opens m_lists m_listed m_work m_counts m_older m_products m_part m_parts m_ways m_used m_greaterNow m_countNow) H → va_D A (wX7 cs ad m_n m_order m_shelf m_opens m_lists m_listed m_work m_counts m_older m_products m_part m_parts m_ways m_used m_greaterNow m_countNow) → va_S A s.heap H locs → lv_has ls 3 [(0, .ref (ad 0)), (1, .int x1)] → W p l e ({ frames := 2, cells := 0, slots := 0, locals := 54 } : Room) s m ([.ref (ad 0), .int a1] : List Value).toArray below meth c H locs 0 0 (MQ below (va_Qv (fun (u : (Nat → Int64) × (Nat → Int32) × Int32) => Q u.1 u.2.1 u.2.2) (Bw (dC, dI) (KA cs) A (fun u : (Nat → Int64) × (Nat → Int32) × Int32 => (wX7 cs ad m_n m_order m_shelf m_opens m_lists m_listed m_work u.1 m_older m_products u.2.1 u.2.2 m_ways m_used m_greaterNow m_countNow))) A) ([.ref (ad 0), .int a1] : List Value).toArray s 0 0 A) (F0 m 71 ls [.long s3, .long s2, .int s1, .ref (ad 6)]) := by
        intro s1 s2 s3 x1 m_counts m_part m_parts H locs ls hq hP hD hS hl
        unfold q7_countByShapes_71 at hq
        refine lv_ladd hx hb dX7_countByShapes_71 ?_
        obtain ⟨i15, hq⟩ := hq
        refine va_last hx hb hK hP hD hS 6 1 rfl rfl i15 dX7_countByShapes_72 (fun H locs hP hD hS => ?_)
        have hP : va_P (dC, dI) vwCl (wX7 cs ad m_n m_order m_shelf m_opens m_lists m_listed m_work (vp_updL m_counts s1.toNatClampNeg (s2 + s3)) m_older m_products m_part m_parts m_ways m_used m_greaterNow m_countNow) H := hP
        have hD : va_D A (wX7 cs ad m_n m_order m_shelf m_opens m_lists m_listed m_work (vp_updL m_counts s1.toNatClampNeg (s2 + s3)) m_older m_products m_part m_parts m_ways m_used m_greaterNow m_countNow) := hD
        refine lv_aload_n hx hb dX7_countByShapes_73 rfl (lv_at hl 0 rfl) ?_
        refine swi (runV ⟨hx, hb, hml, hown, hts⟩ wf_X7_nextShape ml_X7_108 (c7_nextShape l dC dI cs ad _ m_n m_order m_shelf m_opens m_lists m_listed m_work (vp_updL m_counts s1.toNatClampNeg (s2 + s3)) m_older m_products m_part m_parts m_ways m_used m_greaterNow m_countNow  hq) ⟨⟨rfl, rfl⟩, by decide, by decide⟩ (preW hP hK hN hD) hK hP rfl 0 rfl rfl hl.1 rfl (Nat.le_of_ble_eq_true rfl) dX7_countByShapes_74 ⟨(Nat.le_of_ble_eq_true rfl), (Nat.le_of_ble_eq_true rfl)⟩) hD hS hA (fun r16 u19 H locs hq hP hD hS => ?_)
        obtain ⟨m_part_17, m_parts_18⟩ := u19
        try dsimp only at hq
        have hP : va_P (dC, dI) vwCl (wX7 cs ad m_n m_order m_shelf m_opens m_lists m_listed m_work (vp_updL m_counts s1.toNatClampNeg (s2 + s3)) m_older m_products m_part_17 m_parts_18 m_ways m_used m_greaterNow m_countNow) H := hP
        have hD : va_D A (wX7 cs ad m_n m_order m_shelf m_opens m_lists m_listed m_work (vp_updL m_counts s1.toNatClampNeg (s2 + s3)) m_older m_products m_part_17 m_parts_18 m_ways m_used m_greaterNow m_countNow) := hD
        refine lv_istore_n (lv' := [(2, .int r16), (0, .ref (ad 0)), (1, .int x1)]) hx hb dX7_countByShapes_77 rfl hl (by decide) rfl (fun ls hl => ?_)
        refine lv_goto (tgt := 39) hx hb dX7_countByShapes_78 (by decide) ?_
        exact ih39 x1 r16 (vp_updL m_counts s1.toNatClampNeg (s2 + s3)) m_part_17 m_parts_18 _ _ _ hq hP hD hS (lv_sub hl [1, 2, 0] rfl)
      unfold q7_countByShapes_39 at hq
      refine lv_iload_n hx hb dX7_countByShapes_39 rfl (lv_at hl 2 rfl) ?_
      refine lv_if_eq (tgt := 81) hx hb dX7_countByShapes_40 (by decide) (fun c20 => ?_) (fun c20 => ?_)
      · have hq := hq.1 c20
        exact W.vret hx hb hr (fun t ht hW => ⟨⟨(m_counts, m_part, m_parts), rfl, hq, Bw_mk (by rw [ht]; exact hP) (va_K.moved hW.alike hK) hD⟩, hS.F ht⟩) hS.2.2 dX7_countByShapes_81
      · have hq := hq.2 c20
        refine lv_aload_n hx hb dX7_countByShapes_43 rfl (lv_at hl 0 rfl) ?_
        refine va_get (D := (dC, dI)) (ci := 7) (v := .ref (ad 6)) (C := RX7) (T := TX7) (N := 16) hx hb hts uwX7 hown hK hP 0 rfl rfl 7 (by decide) (hts _ fl_X7_32) (fun _ h9 => h9) rfl dX7_countByShapes_44 ?_
        refine lv_aload_n hx hb dX7_countByShapes_47 rfl (lv_at hl 0 rfl) ?_
        refine lv_iload_n hx hb dX7_countByShapes_48 rfl (lv_at hl 1 rfl) ?_
        refine roi (runV ⟨hx, hb, hml, hown, hts⟩ wf_X7_shapeNumber ml_X7_98 (c7_shapeNumber l dC dI cs ad m_n m_order m_shelf m_opens m_lists m_listed m_work m_counts m_older m_products m_part m_parts m_ways m_used m_greaterNow m_countNow x1 hq) ⟨⟨rfl, rfl⟩, by decide, by decide⟩ (preR hP hK hN) hK hP rfl 0 rfl rfl hl.1 rfl (Nat.le_of_ble_eq_true rfl) dX7_countByShapes_49 ⟨(Nat.le_of_ble_eq_true rfl), (Nat.le_of_ble_eq_true rfl)⟩) (fun r21 hq => ?_)
        refine lv_dup2_11 hx hb dX7_countByShapes_52 rfl rfl ?_
        obtain ⟨i22, hq⟩ := hq
        refine va_lald hx hb hK hP 6 1 rfl rfl i22 dX7_countByShapes_53 ?_
        refine lv_iload_n hx hb dX7_countByShapes_54 rfl (lv_at hl 1 rfl) ?_
        refine lv_bipush (v := (6 : Int32)) hx hb dX7_countByShapes_55 (by decide) ?_
        refine lv_icmp_ne (tgt := 67) hx hb dX7_countByShapes_57 (by decide) (fun c23 => ?_) (fun c23 => ?_)
        · have hq := hq.1 c23
          refine lv_aload_n hx hb dX7_countByShapes_67 rfl (lv_at hl 0 rfl) ?_
          refine rol (runV ⟨hx, hb, hml, hown, hts⟩ wf_X7_byRounds ml_X7_105 (c7_byRounds l dC dI cs ad m_n m_order m_shelf m_opens m_lists m_listed m_work m_counts m_older m_products m_part m_parts m_ways m_used m_greaterNow m_countNow  hq) ⟨⟨rfl, rfl⟩, by decide, by decide⟩ (preR hP hK hN) hK hP rfl 0 rfl rfl hl.1 rfl (Nat.le_of_ble_eq_true rfl) dX7_countByShapes_68 ⟨(Nat.le_of_ble_eq_true rfl), (Nat.le_of_ble_eq_true rfl)⟩) (fun r24 hq => ?_)
          exact B71 r21 (m_counts r21.toNatClampNeg) r24 x1 m_counts m_part m_parts _ _ _ hq hP hD hS (lv_sub hl [0, 1] rfl)
        · have hq := hq.2 c23
          refine lv_aload_n hx hb dX7_countByShapes_60 rfl (lv_at hl 0 rfl) ?_
          refine rol (runV ⟨hx, hb, hml, hown, hts⟩ wf_X7_byFillings ml_X7_101 (c7_byFillings l dC dI cs ad m_n m_order m_shelf m_opens m_lists m_listed m_work m_counts m_older m_products m_part m_parts m_ways m_used m_greaterNow m_countNow  hq) ⟨⟨rfl, rfl⟩, by decide, by decide⟩ (preR hP hK hN) hK hP rfl 0 rfl rfl hl.1 rfl (Nat.le_of_ble_eq_true rfl) dX7_countByShapes_61 ⟨(Nat.le_of_ble_eq_true rfl), (Nat.le_of_ble_eq_true rfl)⟩) (fun r25 hq => ?_)
          refine lv_goto (tgt := 71) hx hb dX7_countByShapes_64 (by decide) ?_
          exact B71 r21 (m_counts r21.toNatClampNeg) r25 x1 m_counts m_part m_parts _ _ _ hq hP hD hS (lv_sub hl [0, 1] rfl)
  have B22 : ∀ (x1 : Int32) (m_counts : Nat → Int64) (m_part : Nat → Int32) (m_parts : Int32) (H : Heap) (locs : List Loc) (ls : Array Slot), q7_countByShapes_22 m_n m_products Q x1 m_counts m_part m_parts → va_P (dC, dI) vwCl (wX7 cs ad m_n m_order m_shelf m_opens m_lists m_listed m_work m_counts m_older m_products m_part m_parts m_ways m_used m_greaterNow m_countNow) H → va_D A (wX7 cs ad m_n m_order m_shelf m_opens m_lists m_listed m_work m_counts m_older m_products m_part m_parts m_ways m_used m_greaterNow m_countNow) → va_S A s.heap H locs → lv_has ls 3 [(0, .ref (ad 0)), (1, .int x1)] → W p l e ({ frames := 2, cells := 0, slots := 0, locals := 54 } : Room) s m ([.ref (ad 0), .int a1] : List Value).toArray below meth c H locs 0 0 (MQ below (va_Qv (fun (u : (Nat → Int64) × (Nat → Int32) × Int32) => Q u.1 u.2.1 u.2.2) (Bw (dC, dI) (KA cs) A (fun u : (Nat → Int64) × (Nat → Int32) × Int32 => (wX7 cs ad m_n m_order m_shelf m_opens m_lists m_listed m_work u.1 m_older m_products u.2.1 u.2.2 m_ways m_used m_greaterNow m_countNow))) A) ([.ref (ad 0), .int a1] : List Value).toArray s 0 0 A) (F0 m 22 ls []) := by
    intro x1 m_counts m_part m_parts H locs ls hq hP hD hS hl
    unfold q7_countByShapes_22 at hq
    refine lv_aload_n hx hb dX7_countByShapes_22 rfl (lv_at hl 0 rfl) ?_
    refine va_get (D := (dC, dI)) (ci := 7) (v := .ref (ad 9)) (C := RX7) (T := TX7) (N := 16) hx hb hts uwX7 hown hK hP 0 rfl rfl 10 (by decide) (hts _ fl_X7_42) (fun _ h9 => h9) rfl dX7_countByShapes_23 ?_
    refine lv_iconst (v := (0 : Int32)) hx hb dX7_countByShapes_26 (by decide) ?_
    refine lv_aload_n hx hb dX7_countByShapes_27 rfl (lv_at hl 0 rfl) ?_
    refine va_get (D := (dC, dI)) (ci := 7) (v := .int m_n) (C := RX7) (T := TX7) (N := 16) hx hb hts uwX7 hown hK hP 0 rfl rfl 0 (by decide) (hts _ fl_X7_7) (fun _ h9 => h9) rfl dX7_countByShapes_28 ?_
    obtain ⟨i26, hq⟩ := hq
    refine va_iast hx hb hK hP hD hS 9 0 rfl rfl i26 dX7_countByShapes_31 (fun H locs hP hD hS => ?_)
    have hP : va_P (dC, dI) vwCl (wX7 cs ad m_n m_order m_shelf m_opens m_lists m_listed m_work m_counts m_older m_products (upd m_part (0 : Int32).toNatClampNeg m_n) m_parts m_ways m_used m_greaterNow m_countNow) H := hP
    have hD : va_D A (wX7 cs ad m_n m_order m_shelf m_opens m_lists m_listed m_work m_counts m_older m_products (upd m_part (0 : Int32).toNatClampNeg m_n) m_parts m_ways m_used m_greaterNow m_countNow) := hD
    refine lv_aload_n hx hb dX7_countByShapes_32 rfl (lv_at hl 0 rfl) ?_
    refine lv_iconst (v := (1 : Int32)) hx hb dX7_countByShapes_33 (by decide) ?_
    refine va_put (D := (dC, dI)) (ci := 7) (v := .int (1 : Int32)) (ty := .int) (C := RX7) (T := TX7) (N := 16) hx hb hts uwX7 tyX7 tyX7_ok nmX7 hown hK hP hD hS 0 rfl rfl 11 (by decide) (hts _ fl_X7_95) (fun _ h9 => h9) rfl (by decide +kernel) rfl rfl (Nat.le_of_ble_eq_true rfl) dX7_countByShapes_34 (fun H locs hP hD hS => ?_)
    have hP : va_P (dC, dI) vwCl (wX7 cs ad m_n m_order m_shelf m_opens m_lists m_listed m_work m_counts m_older m_products (upd m_part (0 : Int32).toNatClampNeg m_n) (1 : Int32) m_ways m_used m_greaterNow m_countNow) H := hP
    have hD : va_D A (wX7 cs ad m_n m_order m_shelf m_opens m_lists m_listed m_work m_counts m_older m_products (upd m_part (0 : Int32).toNatClampNeg m_n) (1 : Int32) m_ways m_used m_greaterNow m_countNow) := hD
    refine lv_iconst (v := (1 : Int32)) hx hb dX7_countByShapes_37 (by decide) ?_
    refine lv_istore_n (lv' := [(2, .int (1 : Int32)), (0, .ref (ad 0)), (1, .int x1)]) hx hb dX7_countByShapes_38 rfl hl (by decide) rfl (fun ls hl => ?_)
    obtain ⟨kf, hq⟩ := hq
    exact B39 kf x1 (1 : Int32) m_counts (upd m_part (0 : Int32).toNatClampNeg m_n) (1 : Int32) _ _ _ hq hP hD hS (lv_sub hl [1, 2, 0] rfl)
  have B2 : ∀ (k2 : Nat) (x1 : Int32) (x2 : Int32) (m_counts : Nat → Int64) (m_part : Nat → Int32) (m_parts : Int32) (H : Heap) (locs : List Loc) (ls : Array Slot), q7_countByShapes_2 m_n m_products Q k2 x1 x2 m_counts m_part m_parts → va_P (dC, dI) vwCl (wX7 cs ad m_n m_order m_shelf m_opens m_lists m_listed m_work m_counts m_older m_products m_part m_parts m_ways m_used m_greaterNow m_countNow) H → va_D A (wX7 cs ad m_n m_order m_shelf m_opens m_lists m_listed m_work m_counts m_older m_products m_part m_parts m_ways m_used m_greaterNow m_countNow) → va_S A s.heap H locs → lv_has ls 3 [(0, .ref (ad 0)), (1, .int x1), (2, .int x2)] → W p l e ({ frames := 2, cells := 0, slots := 0, locals := 54 } : Room) s m ([.ref (ad 0), .int a1] : List Value).toArray below meth c H locs 0 0 (MQ below (va_Qv (fun (u : (Nat → Int64) × (Nat → Int32) × Int32) => Q u.1 u.2.1 u.2.2) (Bw (dC, dI) (KA cs) A (fun u : (Nat → Int64) × (Nat → Int32) × Int32 => (wX7 cs ad m_n m_order m_shelf m_opens m_lists m_listed m_work u.1 m_older m_products u.2.1 u.2.2 m_ways m_used m_greaterNow m_countNow))) A) ([.ref (ad 0), .int a1] : List Value).toArray s 0 0 A) (F0 m 2 ls []) := by
    intro k2
    induction k2 with
    | zero => intro x1 x2 m_counts m_part m_parts H locs ls hq; exact False.elim hq
    | succ k2 ih2 =>
      intro x1 x2 m_counts m_part m_parts H locs ls hq hP hD hS hl
      unfold q7_countByShapes_2 at hq
      refine lv_iload_n hx hb dX7_countByShapes_2 rfl (lv_at hl 2 rfl) ?_
      refine lv_sipush (v := (210 : Int32)) hx hb dX7_countByShapes_3 (by decide) ?_
      refine lv_icmp_gt (tgt := 22) hx hb dX7_countByShapes_6 (by decide) (fun c27 => ?_) (fun c27 => ?_)
      · have hq := hq.1 c27
        exact B22 x1 m_counts m_part m_parts _ _ _ hq hP hD hS (lv_sub hl [0, 1] rfl)
      · have hq := hq.2 c27
        refine lv_aload_n hx hb dX7_countByShapes_9 rfl (lv_at hl 0 rfl) ?_
        refine va_get (D := (dC, dI)) (ci := 7) (v := .ref (ad 6)) (C := RX7) (T := TX7) (N := 16) hx hb hts uwX7 hown hK hP 0 rfl rfl 7 (by decide) (hts _ fl_X7_32) (fun _ h9 => h9) rfl dX7_countByShapes_10 ?_
        refine lv_iload_n hx hb dX7_countByShapes_13 rfl (lv_at hl 2 rfl) ?_
        refine lv_lconst (v := (0 : Int64)) hx hb dX7_countByShapes_14 (by decide) ?_
        obtain ⟨i28, hq⟩ := hq
        refine va_last hx hb hK hP hD hS 6 1 rfl rfl i28 dX7_countByShapes_15 (fun H locs hP hD hS => ?_)
        have hP : va_P (dC, dI) vwCl (wX7 cs ad m_n m_order m_shelf m_opens m_lists m_listed m_work (vp_updL m_counts x2.toNatClampNeg (0 : Int64)) m_older m_products m_part m_parts m_ways m_used m_greaterNow m_countNow) H := hP
        have hD : va_D A (wX7 cs ad m_n m_order m_shelf m_opens m_lists m_listed m_work (vp_updL m_counts x2.toNatClampNeg (0 : Int64)) m_older m_products m_part m_parts m_ways m_used m_greaterNow m_countNow) := hD
        refine lv_iinc (v := (x2 + (1 : Int32))) (lv' := [(2, .int (x2 + (1 : Int32))), (0, .ref (ad 0)), (1, .int x1)]) hx hb dX7_countByShapes_16 hl (k := 2) rfl (by rfl) (by decide) rfl (fun ls hl => ?_)
        refine lv_goto (tgt := 2) hx hb dX7_countByShapes_19 (by decide) ?_
        exact ih2 x1 (x2 + (1 : Int32)) (vp_updL m_counts x2.toNatClampNeg (0 : Int64)) m_part m_parts _ _ _ hq hP hD hS (lv_sub hl [1, 2, 0] rfl)
  unfold q7_countByShapes at hq
  refine lv_iconst (v := (0 : Int32)) hx hb dX7_countByShapes_0 (by decide) ?_
  refine lv_istore_n (lv' := [(2, .int (0 : Int32)), (0, .ref (ad 0)), (1, .int a1)]) hx hb dX7_countByShapes_1 rfl hl (by decide) rfl (fun ls hl => ?_)
  obtain ⟨kf, hq⟩ := hq
  exact B2 kf a1 (0 : Int32) m_counts m_part m_parts _ _ _ hq hP hD hS (lv_sub hl [1, 2, 0] rfl)
set_option maxHeartbeats 4000000 in
set_option maxRecDepth 100000 in
theorem c7_findCounts (l : Launch) (dC : Nat → ClassId) (dI : Nat → Nat → Nat) (cs : Nat → ClassId) (ad : Nat → Nat) (sz : Nat) (m_n : Int32) (m_order : Nat → Int32) (m_shelf : Nat → Int32) (m_opens : Int32) (m_lists : Nat → Int32) (m_listed : Nat → Int32) (m_work : Nat → Int32) (m_counts : Nat → Int64) (m_older : Nat → Int64) (m_products : Nat → Int64) (m_part : Nat → Int32) (m_parts : Int32) (m_ways : Nat → Int64) (m_used : Int32) (m_greaterNow : Int32) (m_countNow : Int32) (a1 : Int32) {Q : (Nat → Int64) → (Nat → Int64) → (Nat → Int64) → (Nat → Int32) → Int32 → Prop} (hq : q7_findCounts m_n m_counts m_older m_products m_part m_parts a1 Q) : Met l yX7_findCounts (.code yX7_findCounts cX7_findCounts 2 none :: gt) ({ frames := 3, cells := 0, slots := 0, locals := 76 } : Room) (va_Pc [.ref (ad 0), .int a1] (Pw (dC, dI) (KA cs) (wX7 cs ad m_n m_order m_shelf m_opens m_lists m_listed m_work m_counts m_older m_products m_part m_parts m_ways m_used m_greaterNow m_countNow) sz)) (va_Qv (fun (u : (Nat → Int64) × (Nat → Int64) × (Nat → Int64) × (Nat → Int32) × Int32) => Q u.1 u.2.1 u.2.2.1 u.2.2.2.1 u.2.2.2.2) (Bw (dC, dI) (KA cs) (va_A (wX7 cs ad m_n m_order m_shelf m_opens m_lists m_listed m_work m_counts m_older m_products m_part m_parts m_ways m_used m_greaterNow m_countNow) sz) (fun u : (Nat → Int64) × (Nat → Int64) × (Nat → Int64) × (Nat → Int32) × Int32 => (wX7 cs ad m_n m_order m_shelf m_opens m_lists m_listed m_work u.1 u.2.1 u.2.2.1 u.2.2.2.1 u.2.2.2.2 m_ways m_used m_greaterNow m_countNow))) (va_A (wX7 cs ad m_n m_order m_shelf m_opens m_lists m_listed m_work m_counts m_older m_products m_part m_parts m_ways m_used m_greaterNow m_countNow) sz)) 0 0 (va_A (wX7 cs ad m_n m_order m_shelf m_opens m_lists m_listed m_work m_counts m_older m_products m_part m_parts m_ways m_used m_greaterNow m_countNow) sz) := by
  refine Met.ofW (cc := cX7_findCounts) (maxL := 2) (ret := none) (by decide) rfl ?_
  intro p e s m args below meth c s₁ B hml hv
  obtain ⟨rfl, hsz, hP, hK, hD0, hN⟩ := hv
  have hx := B.exec
  have hb := B.bytes
  have hr := B.returns
  have hts0 := atoms_spec (ws := (.code yX7_findCounts cX7_findCounts 2 none :: gt)) B.pre
  have hts : ∀ w ∈ gt, w.before _ s = true := fun w h => hts0 w (List.mem_cons_of_mem _ h)
  have hown : s.vm.findClass RX7 = some m.cls := findClass_of_methodNamed B.named
  have hlocks := B.notSynchronized
  subst hsz
  have hD := hD0.self (sz := s.heap.size)
  generalize hAe : va_A (wX7 cs ad m_n m_order m_shelf m_opens m_lists m_listed m_work m_counts m_older m_products m_part m_parts m_ways m_used m_greaterNow m_countNow) s.heap.size = A at hD ⊢
  have hA : ∀ q : Nat, s.heap.size ≤ q → A q := fun q h => by rw [← hAe]; exact Or.inr h
  have hS : va_S A s.heap s.heap [] := va_S.rf
  have hl := lv_entry ([.ref (ad 0), .int a1]) (n := 2) (Nat.le_of_ble_eq_true rfl)
  rw [lg_entry_eq]
  generalize (lg_sl ([.ref (ad 0), .int a1]) ++ List.replicate (2 - (lg_sl ([.ref (ad 0), .int a1])).length) Slot.unset).toArray = ls at hl ⊢
  have hl : lv_has ls 2 [(0, .ref (ad 0)), (1, .int a1)] := hl
  have B14 : ∀ (x1 : Int32) (m_counts : Nat → Int64) (m_older : Nat → Int64) (m_products : Nat → Int64) (m_part : Nat → Int32) (m_parts : Int32) (H : Heap) (locs : List Loc) (ls : Array Slot), q7_findCounts_14 m_n Q x1 m_counts m_older m_products m_part m_parts → va_P (dC, dI) vwCl (wX7 cs ad m_n m_order m_shelf m_opens m_lists m_listed m_work m_counts m_older m_products m_part m_parts m_ways m_used m_greaterNow m_countNow) H → va_D A (wX7 cs ad m_n m_order m_shelf m_opens m_lists m_listed m_work m_counts m_older m_products m_part m_parts m_ways m_used m_greaterNow m_countNow) → va_S A s.heap H locs → lv_has ls 2 [(0, .ref (ad 0)), (1, .int x1)] → W p l e ({ frames := 3, cells := 0, slots := 0, locals := 76 } : Room) s m ([.ref (ad 0), .int a1] : List Value).toArray below meth c H locs 0 0 (MQ below (va_Qv (fun (u : (Nat → Int64) × (Nat → Int64) × (Nat → Int64) × (Nat → Int32) × Int32) => Q u.1 u.2.1 u.2.2.1 u.2.2.2.1 u.2.2.2.2) (Bw (dC, dI) (KA cs) A (fun u : (Nat → Int64) × (Nat → Int64) × (Nat → Int64) × (Nat → Int32) × Int32 => (wX7 cs ad m_n m_order m_shelf m_opens m_lists m_listed m_work u.1 u.2.1 u.2.2.1 u.2.2.2.1 u.2.2.2.2 m_ways m_used m_greaterNow m_countNow))) A) ([.ref (ad 0), .int a1] : List Value).toArray s 0 0 A) (F0 m 14 ls []) := by
    intro x1 m_counts m_older m_products m_part m_parts H locs ls hq hP hD hS hl
    unfold q7_findCounts_14 at hq
    refine lv_aload_n hx hb dX7_findCounts_14 rfl (lv_at hl 0 rfl) ?_
    refine lv_iload_n hx hb dX7_findCounts_15 rfl (lv_at hl 1 rfl) ?_
    refine swv (runV ⟨hx, hb, hml, hown, hts⟩ wf_X7_countByThings ml_X7_115 (c7_countByThings l dC dI cs ad _ m_n m_order m_shelf m_opens m_lists m_listed m_work m_counts m_older m_products m_part m_parts m_ways m_used m_greaterNow m_countNow x1 hq) ⟨⟨rfl, rfl⟩, by decide, by decide⟩ (preW hP hK hN hD) hK hP rfl 0 rfl rfl hl.1 rfl (Nat.le_of_ble_eq_true rfl) dX7_findCounts_16 ⟨(Nat.le_of_ble_eq_true rfl), (Nat.le_of_ble_eq_true rfl)⟩) hD hS hA (fun  u14 H locs hq hP hD hS => ?_)
    obtain ⟨m_counts_12, m_older_13⟩ := u14
    try dsimp only at hq
    have hP : va_P (dC, dI) vwCl (wX7 cs ad m_n m_order m_shelf m_opens m_lists m_listed m_work m_counts_12 m_older_13 m_products m_part m_parts m_ways m_used m_greaterNow m_countNow) H := hP
    have hD : va_D A (wX7 cs ad m_n m_order m_shelf m_opens m_lists m_listed m_work m_counts_12 m_older_13 m_products m_part m_parts m_ways m_used m_greaterNow m_countNow) := hD
    refine lv_goto (tgt := 27) hx hb dX7_findCounts_19 (by decide) ?_
    exact W.vret hx hb hr (fun t ht hW => ⟨⟨(m_counts_12, m_older_13, m_products, m_part, m_parts), rfl, hq, Bw_mk (by rw [ht]; exact hP) (va_K.moved hW.alike hK) hD⟩, hS.F ht⟩) hS.2.2 dX7_findCounts_27
  unfold q7_findCounts at hq
  refine lv_aload_n hx hb dX7_findCounts_0 rfl (lv_at hl 0 rfl) ?_
  refine swv (runV ⟨hx, hb, hml, hown, hts⟩ wf_X7_layProducts ml_X7_112 (c7_layProducts l dC dI cs ad _ m_n m_order m_shelf m_opens m_lists m_listed m_work m_counts m_older m_products m_part m_parts m_ways m_used m_greaterNow m_countNow  hq) ⟨⟨rfl, rfl⟩, by decide, by decide⟩ (preW hP hK hN hD) hK hP rfl 0 rfl rfl hl.1 rfl (Nat.le_of_ble_eq_true rfl) dX7_findCounts_1 ⟨(Nat.le_of_ble_eq_true rfl), (Nat.le_of_ble_eq_true rfl)⟩) hD hS hA (fun  m_products_15 H locs hq hP hD hS => ?_)
  have hP : va_P (dC, dI) vwCl (wX7 cs ad m_n m_order m_shelf m_opens m_lists m_listed m_work m_counts m_older m_products_15 m_part m_parts m_ways m_used m_greaterNow m_countNow) H := hP
  have hD : va_D A (wX7 cs ad m_n m_order m_shelf m_opens m_lists m_listed m_work m_counts m_older m_products_15 m_part m_parts m_ways m_used m_greaterNow m_countNow) := hD
  refine lv_iload_n hx hb dX7_findCounts_4 rfl (lv_at hl 1 rfl) ?_
  refine lv_iconst (v := (3 : Int32)) hx hb dX7_findCounts_5 (by decide) ?_
  refine lv_icmp_lt (tgt := 14) hx hb dX7_findCounts_6 (by decide) (fun c17 => ?_) (fun c17 => ?_)
  · have hq := hq.1 c17
    exact B14 a1 m_counts m_older m_products_15 m_part m_parts _ _ _ hq hP hD hS (lv_sub hl [0, 1] rfl)
  · have hq := hq.2 c17
    refine lv_iload_n hx hb dX7_findCounts_9 rfl (lv_at hl 1 rfl) ?_
    refine lv_iconst (v := (5 : Int32)) hx hb dX7_findCounts_10 (by decide) ?_
    refine lv_icmp_ne (tgt := 22) hx hb dX7_findCounts_11 (by decide) (fun c18 => ?_) (fun c18 => ?_)
    · have hq := hq.1 c18
      refine lv_aload_n hx hb dX7_findCounts_22 rfl (lv_at hl 0 rfl) ?_
      refine lv_iload_n hx hb dX7_findCounts_23 rfl (lv_at hl 1 rfl) ?_
      refine swv (runV ⟨hx, hb, hml, hown, hts⟩ wf_X7_countByShapes ml_X7_119 (c7_countByShapes l dC dI cs ad _ m_n m_order m_shelf m_opens m_lists m_listed m_work m_counts m_older m_products_15 m_part m_parts m_ways m_used m_greaterNow m_countNow a1 hq) ⟨⟨rfl, rfl⟩, by decide, by decide⟩ (preW hP hK hN hD) hK hP rfl 0 rfl rfl hl.1 rfl (Nat.le_of_ble_eq_true rfl) dX7_findCounts_24 ⟨(Nat.le_of_ble_eq_true rfl), (Nat.le_of_ble_eq_true rfl)⟩) hD hS hA (fun  u22 H locs hq hP hD hS => ?_)
      obtain ⟨m_counts_19, m_part_20, m_parts_21⟩ := u22
      try dsimp only at hq
      have hP : va_P (dC, dI) vwCl (wX7 cs ad m_n m_order m_shelf m_opens m_lists m_listed m_work m_counts_19 m_older m_products_15 m_part_20 m_parts_21 m_ways m_used m_greaterNow m_countNow) H := hP
      have hD : va_D A (wX7 cs ad m_n m_order m_shelf m_opens m_lists m_listed m_work m_counts_19 m_older m_products_15 m_part_20 m_parts_21 m_ways m_used m_greaterNow m_countNow) := hD
      exact W.vret hx hb hr (fun t ht hW => ⟨⟨(m_counts_19, m_older, m_products_15, m_part_20, m_parts_21), rfl, hq, Bw_mk (by rw [ht]; exact hP) (va_K.moved hW.alike hK) hD⟩, hS.F ht⟩) hS.2.2 dX7_findCounts_27
    · have hq := hq.2 c18
      exact B14 a1 m_counts m_older m_products_15 m_part m_parts _ _ _ hq hP hD hS (lv_sub hl [0, 1] rfl)
set_option maxHeartbeats 4000000 in
set_option maxRecDepth 100000 in
theorem c7_many (l : Launch) (dC : Nat → ClassId) (dI : Nat → Nat → Nat) (cs : Nat → ClassId) (ad : Nat → Nat) (sz : Nat) (m_n : Int32) (m_order : Nat → Int32) (m_shelf : Nat → Int32) (m_opens : Int32) (m_lists : Nat → Int32) (m_listed : Nat → Int32) (m_work : Nat → Int32) (m_counts : Nat → Int64) (m_older : Nat → Int64) (m_products : Nat → Int64) (m_part : Nat → Int32) (m_parts : Int32) (m_ways : Nat → Int64) (m_used : Int32) (m_greaterNow : Int32) (m_countNow : Int32) (a1 : Int32) (a2 : Int32) {Q : Int64 → (Nat → Int64) → (Nat → Int64) → (Nat → Int64) → (Nat → Int32) → Int32 → Prop} (hq : q7_many m_n m_counts m_older m_products m_part m_parts a1 a2 Q) : Met l yX7_many (.code yX7_many cX7_many 3 (some .long) :: gt) ({ frames := 4, cells := 0, slots := 0, locals := 97 } : Room) (va_Pc [.ref (ad 0), .int a1, .int a2] (Pw (dC, dI) (KA cs) (wX7 cs ad m_n m_order m_shelf m_opens m_lists m_listed m_work m_counts m_older m_products m_part m_parts m_ways m_used m_greaterNow m_countNow) sz)) (va_Ql (fun (r : Int64) (u : (Nat → Int64) × (Nat → Int64) × (Nat → Int64) × (Nat → Int32) × Int32) => Q r u.1 u.2.1 u.2.2.1 u.2.2.2.1 u.2.2.2.2) (Bw (dC, dI) (KA cs) (va_A (wX7 cs ad m_n m_order m_shelf m_opens m_lists m_listed m_work m_counts m_older m_products m_part m_parts m_ways m_used m_greaterNow m_countNow) sz) (fun u : (Nat → Int64) × (Nat → Int64) × (Nat → Int64) × (Nat → Int32) × Int32 => (wX7 cs ad m_n m_order m_shelf m_opens m_lists m_listed m_work u.1 u.2.1 u.2.2.1 u.2.2.2.1 u.2.2.2.2 m_ways m_used m_greaterNow m_countNow))) (va_A (wX7 cs ad m_n m_order m_shelf m_opens m_lists m_listed m_work m_counts m_older m_products m_part m_parts m_ways m_used m_greaterNow m_countNow) sz)) 0 0 (va_A (wX7 cs ad m_n m_order m_shelf m_opens m_lists m_listed m_work m_counts m_older m_products m_part m_parts m_ways m_used m_greaterNow m_countNow) sz) := by
  refine Met.ofW (cc := cX7_many) (maxL := 3) (ret := (some .long)) (by decide) rfl ?_
  intro p e s m args below meth c s₁ B hml hv
  obtain ⟨rfl, hsz, hP, hK, hD0, hN⟩ := hv
  have hx := B.exec
  have hb := B.bytes
  have hr := B.returns
  have hts0 := atoms_spec (ws := (.code yX7_many cX7_many 3 (some .long) :: gt)) B.pre
  have hts : ∀ w ∈ gt, w.before _ s = true := fun w h => hts0 w (List.mem_cons_of_mem _ h)
  have hown : s.vm.findClass RX7 = some m.cls := findClass_of_methodNamed B.named
  have hlocks := B.notSynchronized
  subst hsz
  have hD := hD0.self (sz := s.heap.size)
  generalize hAe : va_A (wX7 cs ad m_n m_order m_shelf m_opens m_lists m_listed m_work m_counts m_older m_products m_part m_parts m_ways m_used m_greaterNow m_countNow) s.heap.size = A at hD ⊢
  have hA : ∀ q : Nat, s.heap.size ≤ q → A q := fun q h => by rw [← hAe]; exact Or.inr h
  have hS : va_S A s.heap s.heap [] := va_S.rf
  have hl := lv_entry ([.ref (ad 0), .int a1, .int a2]) (n := 3) (Nat.le_of_ble_eq_true rfl)
  rw [lg_entry_eq]
  generalize (lg_sl ([.ref (ad 0), .int a1, .int a2]) ++ List.replicate (3 - (lg_sl ([.ref (ad 0), .int a1, .int a2])).length) Slot.unset).toArray = ls at hl ⊢
  have hl : lv_has ls 3 [(0, .ref (ad 0)), (1, .int a1), (2, .int a2)] := hl
  unfold q7_many at hq
  refine lv_iload_n hx hb dX7_many_0 rfl (lv_at hl 1 rfl) ?_
  refine lv_i2l (v := a1.toInt64) hx hb dX7_many_1 rfl ?_
  refine lv_lconst (v := (0 : Int64)) hx hb dX7_many_2 (by decide) ?_
  refine lv_ldc2 (v := (7 : Int64)) hx hb hown (hts _ kl_X7_87) dX7_many_3 ?_
  refine roi (runS ⟨hx, hb, hml, hown, hts⟩ ws_X7_in ml_X7_51 (c7_in l dC dI cs   a1.toInt64 (0 : Int64) (7 : Int64) hq) ⟨⟨rfl, rfl⟩, by decide, by decide⟩ (preR va_P_nil hK hN) hN rfl hl.1 rfl (Nat.le_of_ble_eq_true rfl) dX7_many_6 ⟨(Nat.le_of_ble_eq_true rfl), (Nat.le_of_ble_eq_true rfl)⟩) (fun r12 hq => ?_)
  refine lv_if_ne (tgt := 16) hx hb dX7_many_9 (by decide) (fun c13 => ?_) (fun c13 => ?_)
  · have hq := hq.1 c13
    refine lv_aload_n hx hb dX7_many_16 rfl (lv_at hl 0 rfl) ?_
    refine lv_iload_n hx hb dX7_many_17 rfl (lv_at hl 1 rfl) ?_
    refine swv (runV ⟨hx, hb, hml, hown, hts⟩ wf_X7_findCounts ml_X7_124 (c7_findCounts l dC dI cs ad _ m_n m_order m_shelf m_opens m_lists m_listed m_work m_counts m_older m_products m_part m_parts m_ways m_used m_greaterNow m_countNow a1 hq) ⟨⟨rfl, rfl⟩, by decide, by decide⟩ (preW hP hK hN hD) hK hP rfl 0 rfl rfl hl.1 rfl (Nat.le_of_ble_eq_true rfl) dX7_many_18 ⟨(Nat.le_of_ble_eq_true rfl), (Nat.le_of_ble_eq_true rfl)⟩) hD hS hA (fun  u19 H locs hq hP hD hS => ?_)
    obtain ⟨m_counts_14, m_older_15, m_products_16, m_part_17, m_parts_18⟩ := u19
    try dsimp only at hq
    have hP : va_P (dC, dI) vwCl (wX7 cs ad m_n m_order m_shelf m_opens m_lists m_listed m_work m_counts_14 m_older_15 m_products_16 m_part_17 m_parts_18 m_ways m_used m_greaterNow m_countNow) H := hP
    have hD : va_D A (wX7 cs ad m_n m_order m_shelf m_opens m_lists m_listed m_work m_counts_14 m_older_15 m_products_16 m_part_17 m_parts_18 m_ways m_used m_greaterNow m_countNow) := hD
    refine lv_iload_n hx hb dX7_many_21 rfl (lv_at hl 2 rfl) ?_
    refine lv_i2l (v := a2.toInt64) hx hb dX7_many_22 rfl ?_
    refine lv_lconst (v := (0 : Int64)) hx hb dX7_many_23 (by decide) ?_
    refine lv_ldc2 (v := (210 : Int64)) hx hb hown (hts _ kl_X7_127) dX7_many_24 ?_
    refine roi (runS ⟨hx, hb, hml, hown, hts⟩ ws_X7_in ml_X7_51 (c7_in l dC dI cs   a2.toInt64 (0 : Int64) (210 : Int64) hq) ⟨⟨rfl, rfl⟩, by decide, by decide⟩ (preR va_P_nil hK hN) hN rfl hl.1 rfl (Nat.le_of_ble_eq_true rfl) dX7_many_27 ⟨(Nat.le_of_ble_eq_true rfl), (Nat.le_of_ble_eq_true rfl)⟩) (fun r20 hq => ?_)
    refine lv_if_eq (tgt := 42) hx hb dX7_many_30 (by decide) (fun c21 => ?_) (fun c21 => ?_)
    · have hq := hq.1 c21
      refine lv_lconst (v := (0 : Int64)) hx hb dX7_many_42 (by decide) ?_
      exact W.lret (v := (0 : Int64)) hx hb hr (fun t ht hW => ⟨⟨(0 : Int64), (m_counts_14, m_older_15, m_products_16, m_part_17, m_parts_18), rfl, hq, Bw_mk (by rw [ht]; exact hP) (va_K.moved hW.alike hK) hD⟩, hS.F ht⟩) hS.2.2 dX7_many_43
    · have hq := hq.2 c21
      refine lv_aload_n hx hb dX7_many_33 rfl (lv_at hl 0 rfl) ?_
      refine va_get (D := (dC, dI)) (ci := 7) (v := .ref (ad 6)) (C := RX7) (T := TX7) (N := 16) hx hb hts uwX7 hown hK hP 0 rfl rfl 7 (by decide) (hts _ fl_X7_32) (fun _ h9 => h9) rfl dX7_many_34 ?_
      refine lv_iload_n hx hb dX7_many_37 rfl (lv_at hl 2 rfl) ?_
      obtain ⟨i22, hq⟩ := hq
      refine va_lald hx hb hK hP 6 1 rfl rfl i22 dX7_many_38 ?_
      refine lv_goto (tgt := 43) hx hb dX7_many_39 (by decide) ?_
      exact W.lret (v := (m_counts_14 a2.toNatClampNeg)) hx hb hr (fun t ht hW => ⟨⟨(m_counts_14 a2.toNatClampNeg), (m_counts_14, m_older_15, m_products_16, m_part_17, m_parts_18), rfl, hq, Bw_mk (by rw [ht]; exact hP) (va_K.moved hW.alike hK) hD⟩, hS.F ht⟩) hS.2.2 dX7_many_43
  · have hq := hq.2 c13
    refine lv_ldc2 (v := (-2 : Int64)) hx hb hown (hts _ kl_X7_122) dX7_many_12 ?_
    exact W.lret (v := (-2 : Int64)) hx hb hr (fun t ht hW => ⟨⟨(-2 : Int64), (m_counts, m_older, m_products, m_part, m_parts), rfl, hq, Bw_mk (by rw [ht]; exact hP) (va_K.moved hW.alike hK) hD⟩, hS.F ht⟩) hS.2.2 dX7_many_15
set_option maxHeartbeats 4000000 in
set_option maxRecDepth 100000 in
theorem c7_mean (l : Launch) (dC : Nat → ClassId) (dI : Nat → Nat → Nat) (cs : Nat → ClassId) (ad : Nat → Nat) (sz : Nat) (m_n : Int32) (m_order : Nat → Int32) (m_shelf : Nat → Int32) (m_opens : Int32) (m_lists : Nat → Int32) (m_listed : Nat → Int32) (m_work : Nat → Int32) (m_counts : Nat → Int64) (m_older : Nat → Int64) (m_products : Nat → Int64) (m_part : Nat → Int32) (m_parts : Int32) (m_ways : Nat → Int64) (m_used : Int32) (m_greaterNow : Int32) (m_countNow : Int32) (a1 : Int32) (a2 : Int32) {Q : Int64 → (Nat → Int64) → (Nat → Int64) → (Nat → Int64) → (Nat → Int32) → Int32 → Prop} (hq : q7_mean m_n m_counts m_older m_products m_part m_parts a1 a2 Q) : Met l yX7_mean (.code yX7_mean cX7_mean 7 (some .long) :: gt) ({ frames := 4, cells := 0, slots := 0, locals := 97 } : Room) (va_Pc [.ref (ad 0), .int a1, .int a2] (Pw (dC, dI) (KA cs) (wX7 cs ad m_n m_order m_shelf m_opens m_lists m_listed m_work m_counts m_older m_products m_part m_parts m_ways m_used m_greaterNow m_countNow) sz)) (va_Ql (fun (r : Int64) (u : (Nat → Int64) × (Nat → Int64) × (Nat → Int64) × (Nat → Int32) × Int32) => Q r u.1 u.2.1 u.2.2.1 u.2.2.2.1 u.2.2.2.2) (Bw (dC, dI) (KA cs) (va_A (wX7 cs ad m_n m_order m_shelf m_opens m_lists m_listed m_work m_counts m_older m_products m_part m_parts m_ways m_used m_greaterNow m_countNow) sz) (fun u : (Nat → Int64) × (Nat → Int64) × (Nat → Int64) × (Nat → Int32) × Int32 => (wX7 cs ad m_n m_order m_shelf m_opens m_lists m_listed m_work u.1 u.2.1 u.2.2.1 u.2.2.2.1 u.2.2.2.2 m_ways m_used m_greaterNow m_countNow))) (va_A (wX7 cs ad m_n m_order m_shelf m_opens m_lists m_listed m_work m_counts m_older m_products m_part m_parts m_ways m_used m_greaterNow m_countNow) sz)) 0 0 (va_A (wX7 cs ad m_n m_order m_shelf m_opens m_lists m_listed m_work m_counts m_older m_products m_part m_parts m_ways m_used m_greaterNow m_countNow) sz) := by
  refine Met.ofW (cc := cX7_mean) (maxL := 7) (ret := (some .long)) (by decide) rfl ?_
  intro p e s m args below meth c s₁ B hml hv
  obtain ⟨rfl, hsz, hP, hK, hD0, hN⟩ := hv
  have hx := B.exec
  have hb := B.bytes
  have hr := B.returns
  have hts0 := atoms_spec (ws := (.code yX7_mean cX7_mean 7 (some .long) :: gt)) B.pre
  have hts : ∀ w ∈ gt, w.before _ s = true := fun w h => hts0 w (List.mem_cons_of_mem _ h)
  have hown : s.vm.findClass RX7 = some m.cls := findClass_of_methodNamed B.named
  have hlocks := B.notSynchronized
  subst hsz
  have hD := hD0.self (sz := s.heap.size)
  generalize hAe : va_A (wX7 cs ad m_n m_order m_shelf m_opens m_lists m_listed m_work m_counts m_older m_products m_part m_parts m_ways m_used m_greaterNow m_countNow) s.heap.size = A at hD ⊢
  have hA : ∀ q : Nat, s.heap.size ≤ q → A q := fun q h => by rw [← hAe]; exact Or.inr h
  have hS : va_S A s.heap s.heap [] := va_S.rf
  have hl := lv_entry ([.ref (ad 0), .int a1, .int a2]) (n := 7) (Nat.le_of_ble_eq_true rfl)
  rw [lg_entry_eq]
  generalize (lg_sl ([.ref (ad 0), .int a1, .int a2]) ++ List.replicate (7 - (lg_sl ([.ref (ad 0), .int a1, .int a2])).length) Slot.unset).toArray = ls at hl ⊢
  have hl : lv_has ls 7 [(0, .ref (ad 0)), (1, .int a1), (2, .int a2)] := hl
  have B64 : ∀ (x2 : Int32) (x3 : Int64) (m_counts : Nat → Int64) (m_older : Nat → Int64) (m_products : Nat → Int64) (m_part : Nat → Int32) (m_parts : Int32) (H : Heap) (locs : List Loc) (ls : Array Slot), q7_mean_64 m_n Q x2 x3 m_counts m_older m_products m_part m_parts → va_P (dC, dI) vwCl (wX7 cs ad m_n m_order m_shelf m_opens m_lists m_listed m_work m_counts m_older m_products m_part m_parts m_ways m_used m_greaterNow m_countNow) H → va_D A (wX7 cs ad m_n m_order m_shelf m_opens m_lists m_listed m_work m_counts m_older m_products m_part m_parts m_ways m_used m_greaterNow m_countNow) → va_S A s.heap H locs → lv_has ls 7 [(0, .ref (ad 0)), (2, .int x2), (3, .long x3)] → W p l e ({ frames := 4, cells := 0, slots := 0, locals := 97 } : Room) s m ([.ref (ad 0), .int a1, .int a2] : List Value).toArray below meth c H locs 0 0 (MQ below (va_Ql (fun (r : Int64) (u : (Nat → Int64) × (Nat → Int64) × (Nat → Int64) × (Nat → Int32) × Int32) => Q r u.1 u.2.1 u.2.2.1 u.2.2.2.1 u.2.2.2.2) (Bw (dC, dI) (KA cs) A (fun u : (Nat → Int64) × (Nat → Int64) × (Nat → Int64) × (Nat → Int32) × Int32 => (wX7 cs ad m_n m_order m_shelf m_opens m_lists m_listed m_work u.1 u.2.1 u.2.2.1 u.2.2.2.1 u.2.2.2.2 m_ways m_used m_greaterNow m_countNow))) A) ([.ref (ad 0), .int a1, .int a2] : List Value).toArray s 0 0 A) (F0 m 64 ls []) := by
    intro x2 x3 m_counts m_older m_products m_part m_parts H locs ls hq hP hD hS hl
    unfold q7_mean_64 at hq
    refine lv_lload_n hx hb dX7_mean_64 rfl (lv_at hl 2 rfl) ?_
    refine lv_aload_n hx hb dX7_mean_65 rfl (lv_at hl 0 rfl) ?_
    refine va_get (D := (dC, dI)) (ci := 7) (v := .ref (ad 8)) (C := RX7) (T := TX7) (N := 16) hx hb hts uwX7 hown hK hP 0 rfl rfl 9 (by decide) (hts _ fl_X7_39) (fun _ h9 => h9) rfl dX7_mean_66 ?_
    refine lv_aload_n hx hb dX7_mean_69 rfl (lv_at hl 0 rfl) ?_
    refine va_get (D := (dC, dI)) (ci := 7) (v := .int m_n) (C := RX7) (T := TX7) (N := 16) hx hb hts uwX7 hown hK hP 0 rfl rfl 0 (by decide) (hts _ fl_X7_7) (fun _ h9 => h9) rfl dX7_mean_70 ?_
    obtain ⟨i19, hq⟩ := hq
    refine va_lald hx hb hK hP 8 1 rfl rfl i19 dX7_mean_73 ?_
    refine rol (runS ⟨hx, hb, hml, hown, hts⟩ ws_X7_common ml_X7_70 (c7_common l dC dI cs   x3 (m_products m_n.toNatClampNeg) hq) ⟨⟨rfl, rfl⟩, by decide, by decide⟩ (preR va_P_nil hK hN) hN rfl hl.1 rfl (Nat.le_of_ble_eq_true rfl) dX7_mean_74 ⟨(Nat.le_of_ble_eq_true rfl), (Nat.le_of_ble_eq_true rfl)⟩) (fun r20 hq => ?_)
    refine lv_lstore (lv' := [(5, .long r20), (0, .ref (ad 0)), (2, .int x2), (3, .long x3)]) hx hb dX7_mean_77 hl (by decide) rfl (fun ls hl => ?_)
    refine lv_iload_n hx hb dX7_mean_79 rfl (lv_at hl 2 rfl) ?_
    refine lv_if_ne (tgt := 90) hx hb dX7_mean_80 (by decide) (fun c21 => ?_) (fun c21 => ?_)
    · have hq := hq.1 c21
      refine lv_aload_n hx hb dX7_mean_90 rfl (lv_at hl 1 rfl) ?_
      refine va_get (D := (dC, dI)) (ci := 7) (v := .ref (ad 8)) (C := RX7) (T := TX7) (N := 16) hx hb hts uwX7 hown hK hP 0 rfl rfl 9 (by decide) (hts _ fl_X7_39) (fun _ h9 => h9) rfl dX7_mean_91 ?_
      refine lv_aload_n hx hb dX7_mean_94 rfl (lv_at hl 1 rfl) ?_
      refine va_get (D := (dC, dI)) (ci := 7) (v := .int m_n) (C := RX7) (T := TX7) (N := 16) hx hb hts uwX7 hown hK hP 0 rfl rfl 0 (by decide) (hts _ fl_X7_7) (fun _ h9 => h9) rfl dX7_mean_95 ?_
      obtain ⟨i22, hq⟩ := hq
      refine va_lald hx hb hK hP 8 1 rfl rfl i22 dX7_mean_98 ?_
      refine lv_lload hx hb dX7_mean_99 (lv_at hl 0 rfl) ?_
      obtain ⟨z23, hq⟩ := hq
      refine lv_ldiv hx hb dX7_mean_101 z23 ?_
      exact W.lret (v := ((m_products m_n.toNatClampNeg) / r20)) hx hb hr (fun t ht hW => ⟨⟨((m_products m_n.toNatClampNeg) / r20), (m_counts, m_older, m_products, m_part, m_parts), rfl, hq, Bw_mk (by rw [ht]; exact hP) (va_K.moved hW.alike hK) hD⟩, hS.F ht⟩) hS.2.2 dX7_mean_102
    · have hq := hq.2 c21
      refine lv_lload_n hx hb dX7_mean_83 rfl (lv_at hl 3 rfl) ?_
      refine lv_lload hx hb dX7_mean_84 (lv_at hl 0 rfl) ?_
      obtain ⟨z24, hq⟩ := hq
      refine lv_ldiv hx hb dX7_mean_86 z24 ?_
      refine lv_goto (tgt := 102) hx hb dX7_mean_87 (by decide) ?_
      exact W.lret (v := (x3 / r20)) hx hb hr (fun t ht hW => ⟨⟨(x3 / r20), (m_counts, m_older, m_products, m_part, m_parts), rfl, hq, Bw_mk (by rw [ht]; exact hP) (va_K.moved hW.alike hK) hD⟩, hS.F ht⟩) hS.2.2 dX7_mean_102
  have B36 : ∀ (k36 : Nat) (x2 : Int32) (x3 : Int64) (x5 : Int32) (m_counts : Nat → Int64) (m_older : Nat → Int64) (m_products : Nat → Int64) (m_part : Nat → Int32) (m_parts : Int32) (H : Heap) (locs : List Loc) (ls : Array Slot), q7_mean_36 m_n Q k36 x2 x3 x5 m_counts m_older m_products m_part m_parts → va_P (dC, dI) vwCl (wX7 cs ad m_n m_order m_shelf m_opens m_lists m_listed m_work m_counts m_older m_products m_part m_parts m_ways m_used m_greaterNow m_countNow) H → va_D A (wX7 cs ad m_n m_order m_shelf m_opens m_lists m_listed m_work m_counts m_older m_products m_part m_parts m_ways m_used m_greaterNow m_countNow) → va_S A s.heap H locs → lv_has ls 7 [(0, .ref (ad 0)), (2, .int x2), (3, .long x3), (5, .int x5)] → W p l e ({ frames := 4, cells := 0, slots := 0, locals := 97 } : Room) s m ([.ref (ad 0), .int a1, .int a2] : List Value).toArray below meth c H locs 0 0 (MQ below (va_Ql (fun (r : Int64) (u : (Nat → Int64) × (Nat → Int64) × (Nat → Int64) × (Nat → Int32) × Int32) => Q r u.1 u.2.1 u.2.2.1 u.2.2.2.1 u.2.2.2.2) (Bw (dC, dI) (KA cs) A (fun u : (Nat → Int64) × (Nat → Int64) × (Nat → Int64) × (Nat → Int32) × Int32 => (wX7 cs ad m_n m_order m_shelf m_opens m_lists m_listed m_work u.1 u.2.1 u.2.2.1 u.2.2.2.1 u.2.2.2.2 m_ways m_used m_greaterNow m_countNow))) A) ([.ref (ad 0), .int a1, .int a2] : List Value).toArray s 0 0 A) (F0 m 36 ls []) := by
    intro k36
    induction k36 with
    | zero => intro x2 x3 x5 m_counts m_older m_products m_part m_parts H locs ls hq; exact False.elim hq
    | succ k36 ih36 =>
      intro x2 x3 x5 m_counts m_older m_products m_part m_parts H locs ls hq hP hD hS hl
      unfold q7_mean_36 at hq
      refine lv_iload hx hb dX7_mean_36 (lv_at hl 3 rfl) ?_
      refine lv_sipush (v := (210 : Int32)) hx hb dX7_mean_38 (by decide) ?_
      refine lv_icmp_gt (tgt := 64) hx hb dX7_mean_41 (by decide) (fun c25 => ?_) (fun c25 => ?_)
      · have hq := hq.1 c25
        exact B64 x2 x3 m_counts m_older m_products m_part m_parts _ _ _ hq hP hD hS (lv_sub hl [0, 1, 2] rfl)
      · have hq := hq.2 c25
        refine lv_lload_n hx hb dX7_mean_44 rfl (lv_at hl 2 rfl) ?_
        refine lv_iload hx hb dX7_mean_45 (lv_at hl 3 rfl) ?_
        refine lv_i2l (v := x5.toInt64) hx hb dX7_mean_47 rfl ?_
        refine lv_aload_n hx hb dX7_mean_48 rfl (lv_at hl 0 rfl) ?_
        refine va_get (D := (dC, dI)) (ci := 7) (v := .ref (ad 6)) (C := RX7) (T := TX7) (N := 16) hx hb hts uwX7 hown hK hP 0 rfl rfl 7 (by decide) (hts _ fl_X7_32) (fun _ h9 => h9) rfl dX7_mean_49 ?_
        refine lv_iload hx hb dX7_mean_52 (lv_at hl 3 rfl) ?_
        obtain ⟨i26, hq⟩ := hq
        refine va_lald hx hb hK hP 6 1 rfl rfl i26 dX7_mean_54 ?_
        refine lv_lmul hx hb dX7_mean_55 ?_
        refine lv_ladd hx hb dX7_mean_56 ?_
        refine lv_lstore_n (lv' := [(3, .long (x3 + (x5.toInt64 * (m_counts x5.toNatClampNeg)))), (0, .ref (ad 0)), (2, .int x2), (5, .int x5)]) hx hb dX7_mean_57 rfl hl (by decide) rfl (fun ls hl => ?_)
        refine lv_iinc (v := (x5 + (1 : Int32))) (lv' := [(5, .int (x5 + (1 : Int32))), (3, .long (x3 + (x5.toInt64 * (m_counts x5.toNatClampNeg)))), (0, .ref (ad 0)), (2, .int x2)]) hx hb dX7_mean_58 hl (k := 3) rfl (by rfl) (by decide) rfl (fun ls hl => ?_)
        refine lv_goto (tgt := 36) hx hb dX7_mean_61 (by decide) ?_
        exact ih36 x2 (x3 + (x5.toInt64 * (m_counts x5.toNatClampNeg))) (x5 + (1 : Int32)) m_counts m_older m_products m_part m_parts _ _ _ hq hP hD hS (lv_sub hl [2, 3, 1, 0] rfl)
  unfold q7_mean at hq
  refine lv_iload_n hx hb dX7_mean_0 rfl (lv_at hl 1 rfl) ?_
  refine lv_i2l (v := a1.toInt64) hx hb dX7_mean_1 rfl ?_
  refine lv_lconst (v := (0 : Int64)) hx hb dX7_mean_2 (by decide) ?_
  refine lv_ldc2 (v := (7 : Int64)) hx hb hown (hts _ kl_X7_87) dX7_mean_3 ?_
  refine roi (runS ⟨hx, hb, hml, hown, hts⟩ ws_X7_in ml_X7_51 (c7_in l dC dI cs   a1.toInt64 (0 : Int64) (7 : Int64) hq) ⟨⟨rfl, rfl⟩, by decide, by decide⟩ (preR va_P_nil hK hN) hN rfl hl.1 rfl (Nat.le_of_ble_eq_true rfl) dX7_mean_6 ⟨(Nat.le_of_ble_eq_true rfl), (Nat.le_of_ble_eq_true rfl)⟩) (fun r27 hq => ?_)
  refine lv_if_eq (tgt := 22) hx hb dX7_mean_9 (by decide) (fun c28 => ?_) (fun c28 => ?_)
  · have hq := hq.1 c28
    refine lv_ldc2 (v := (-2 : Int64)) hx hb hown (hts _ kl_X7_122) dX7_mean_22 ?_
    exact W.lret (v := (-2 : Int64)) hx hb hr (fun t ht hW => ⟨⟨(-2 : Int64), (m_counts, m_older, m_products, m_part, m_parts), rfl, hq, Bw_mk (by rw [ht]; exact hP) (va_K.moved hW.alike hK) hD⟩, hS.F ht⟩) hS.2.2 dX7_mean_25
  · have hq := hq.2 c28
    refine lv_iload_n hx hb dX7_mean_12 rfl (lv_at hl 2 rfl) ?_
    refine lv_i2l (v := a2.toInt64) hx hb dX7_mean_13 rfl ?_
    refine lv_lconst (v := (0 : Int64)) hx hb dX7_mean_14 (by decide) ?_
    refine lv_lconst (v := (1 : Int64)) hx hb dX7_mean_15 (by decide) ?_
    refine roi (runS ⟨hx, hb, hml, hown, hts⟩ ws_X7_in ml_X7_51 (c7_in l dC dI cs   a2.toInt64 (0 : Int64) (1 : Int64) hq) ⟨⟨rfl, rfl⟩, by decide, by decide⟩ (preR va_P_nil hK hN) hN rfl hl.1 rfl (Nat.le_of_ble_eq_true rfl) dX7_mean_16 ⟨(Nat.le_of_ble_eq_true rfl), (Nat.le_of_ble_eq_true rfl)⟩) (fun r29 hq => ?_)
    refine lv_if_ne (tgt := 26) hx hb dX7_mean_19 (by decide) (fun c30 => ?_) (fun c30 => ?_)
    · have hq := hq.1 c30
      refine lv_aload_n hx hb dX7_mean_26 rfl (lv_at hl 0 rfl) ?_
      refine lv_iload_n hx hb dX7_mean_27 rfl (lv_at hl 1 rfl) ?_
      refine swv (runV ⟨hx, hb, hml, hown, hts⟩ wf_X7_findCounts ml_X7_124 (c7_findCounts l dC dI cs ad _ m_n m_order m_shelf m_opens m_lists m_listed m_work m_counts m_older m_products m_part m_parts m_ways m_used m_greaterNow m_countNow a1 hq) ⟨⟨rfl, rfl⟩, by decide, by decide⟩ (preW hP hK hN hD) hK hP rfl 0 rfl rfl hl.1 rfl (Nat.le_of_ble_eq_true rfl) dX7_mean_28 ⟨(Nat.le_of_ble_eq_true rfl), (Nat.le_of_ble_eq_true rfl)⟩) hD hS hA (fun  u36 H locs hq hP hD hS => ?_)
      obtain ⟨m_counts_31, m_older_32, m_products_33, m_part_34, m_parts_35⟩ := u36
      try dsimp only at hq
      have hP : va_P (dC, dI) vwCl (wX7 cs ad m_n m_order m_shelf m_opens m_lists m_listed m_work m_counts_31 m_older_32 m_products_33 m_part_34 m_parts_35 m_ways m_used m_greaterNow m_countNow) H := hP
      have hD : va_D A (wX7 cs ad m_n m_order m_shelf m_opens m_lists m_listed m_work m_counts_31 m_older_32 m_products_33 m_part_34 m_parts_35 m_ways m_used m_greaterNow m_countNow) := hD
      refine lv_lconst (v := (0 : Int64)) hx hb dX7_mean_31 (by decide) ?_
      refine lv_lstore_n (lv' := [(3, .long (0 : Int64)), (0, .ref (ad 0)), (1, .int a1), (2, .int a2)]) hx hb dX7_mean_32 rfl hl (by decide) rfl (fun ls hl => ?_)
      refine lv_iconst (v := (0 : Int32)) hx hb dX7_mean_33 (by decide) ?_
      refine lv_istore (lv' := [(5, .int (0 : Int32)), (3, .long (0 : Int64)), (0, .ref (ad 0)), (1, .int a1), (2, .int a2)]) hx hb dX7_mean_34 hl (by decide) rfl (fun ls hl => ?_)
      obtain ⟨kf, hq⟩ := hq
      exact B36 kf a2 (0 : Int64) (0 : Int32) m_counts_31 m_older_32 m_products_33 m_part_34 m_parts_35 _ _ _ hq hP hD hS (lv_sub hl [2, 4, 1, 0] rfl)
    · have hq := hq.2 c30
      refine lv_ldc2 (v := (-2 : Int64)) hx hb hown (hts _ kl_X7_122) dX7_mean_22 ?_
      exact W.lret (v := (-2 : Int64)) hx hb hr (fun t ht hW => ⟨⟨(-2 : Int64), (m_counts, m_older, m_products, m_part, m_parts), rfl, hq, Bw_mk (by rw [ht]; exact hP) (va_K.moved hW.alike hK) hD⟩, hS.F ht⟩) hS.2.2 dX7_mean_25
set_option maxHeartbeats 4000000 in
set_option maxRecDepth 100000 in
theorem c7_wayAt (l : Launch) (dC : Nat → ClassId) (dI : Nat → Nat → Nat) (cs : Nat → ClassId) (a0 : Int32) (a1 : Int32) (a2 : Int32) {Q : Int32 → Prop} (hq : q7_wayAt a0 a1 a2 Q) : Met l yX7_wayAt (.code yX7_wayAt cX7_wayAt 3 (some .int) :: gt) ({ frames := 0, cells := 0, slots := 0, locals := 0 } : Room) (va_Pc [.int a0, .int a1, .int a2] (Pr (dC, dI) (KA cs) ([] : va_W))) (vp_Si Q) 0 0 (fun _ => False) := by
  refine Met.ofW (cc := cX7_wayAt) (maxL := 3) (ret := (some .int)) (by decide) rfl ?_
  intro p e s m args below meth c s₁ B hml hv
  obtain ⟨rfl, hP, hK, hN⟩ := hv
  have hx := B.exec
  have hb := B.bytes
  have hr := B.returns
  have hts0 := atoms_spec (ws := (.code yX7_wayAt cX7_wayAt 3 (some .int) :: gt)) B.pre
  have hts : ∀ w ∈ gt, w.before _ s = true := fun w h => hts0 w (List.mem_cons_of_mem _ h)
  have hown : s.vm.findClass RX7 = some m.cls := findClass_of_methodNamed B.named
  have hlocks := B.notSynchronized
  have hl := lv_entry ([.int a0, .int a1, .int a2]) (n := 3) (Nat.le_of_ble_eq_true rfl)
  rw [lg_entry_eq]
  generalize (lg_sl ([.int a0, .int a1, .int a2]) ++ List.replicate (3 - (lg_sl ([.int a0, .int a1, .int a2])).length) Slot.unset).toArray = ls at hl ⊢
  have hl : lv_has ls 3 [(0, .int a0), (1, .int a1), (2, .int a2)] := hl
  unfold q7_wayAt at hq
  refine lv_bipush (v := (19 : Int32)) hx hb dX7_wayAt_0 (by decide) ?_
  refine lv_iload_n hx hb dX7_wayAt_2 rfl (lv_at hl 0 rfl) ?_
  refine lv_imul hx hb dX7_wayAt_3 ?_
  refine lv_iload_n hx hb dX7_wayAt_4 rfl (lv_at hl 1 rfl) ?_
  refine lv_iadd hx hb dX7_wayAt_5 ?_
  refine lv_bipush (v := (19 : Int32)) hx hb dX7_wayAt_6 (by decide) ?_
  refine lv_imul hx hb dX7_wayAt_8 ?_
  refine lv_iload_n hx hb dX7_wayAt_9 rfl (lv_at hl 2 rfl) ?_
  refine lv_iadd hx hb dX7_wayAt_10 ?_
  exact W.iret (v := (((((19 : Int32) * a0) + a1) * (19 : Int32)) + a2)) hx hb hr (fun t ht hW => ⟨(((((19 : Int32) * a0) + a1) * (19 : Int32)) + a2), rfl, hq, ht⟩) (fun q h => absurd h List.not_mem_nil) dX7_wayAt_11
set_option maxHeartbeats 4000000 in
set_option maxRecDepth 100000 in
theorem c7_waysBy (l : Launch) (dC : Nat → ClassId) (dI : Nat → Nat → Nat) (cs : Nat → ClassId) (ad : Nat → Nat) (m_n : Int32) (m_order : Nat → Int32) (m_shelf : Nat → Int32) (m_opens : Int32) (m_lists : Nat → Int32) (m_listed : Nat → Int32) (m_work : Nat → Int32) (m_counts : Nat → Int64) (m_older : Nat → Int64) (m_products : Nat → Int64) (m_part : Nat → Int32) (m_parts : Int32) (m_ways : Nat → Int64) (m_used : Int32) (m_greaterNow : Int32) (m_countNow : Int32) (a1 : Int32) (a2 : Int32) (a3 : Int32) (a4 : Int32) (a5 : Int32) {Q : Int64 → Prop} (hq : q7_waysBy m_ways a1 a2 a3 a4 a5 Q) : Met l yX7_waysBy (.code yX7_waysBy cX7_waysBy 9 (some .long) :: gt) ({ frames := 1, cells := 0, slots := 0, locals := 22 } : Room) (va_Pc [.ref (ad 0), .int a1, .int a2, .int a3, .int a4, .int a5] (Pr (dC, dI) (KA cs) (wX7 cs ad m_n m_order m_shelf m_opens m_lists m_listed m_work m_counts m_older m_products m_part m_parts m_ways m_used m_greaterNow m_countNow))) (vp_Sl Q) 0 0 (fun _ => False) := by
  refine Met.ofW (cc := cX7_waysBy) (maxL := 9) (ret := (some .long)) (by decide) rfl ?_
  intro p e s m args below meth c s₁ B hml hv
  obtain ⟨rfl, hP, hK, hN⟩ := hv
  have hx := B.exec
  have hb := B.bytes
  have hr := B.returns
  have hts0 := atoms_spec (ws := (.code yX7_waysBy cX7_waysBy 9 (some .long) :: gt)) B.pre
  have hts : ∀ w ∈ gt, w.before _ s = true := fun w h => hts0 w (List.mem_cons_of_mem _ h)
  have hown : s.vm.findClass RX7 = some m.cls := findClass_of_methodNamed B.named
  have hlocks := B.notSynchronized
  have hl := lv_entry ([.ref (ad 0), .int a1, .int a2, .int a3, .int a4, .int a5]) (n := 9) (Nat.le_of_ble_eq_true rfl)
  rw [lg_entry_eq]
  generalize (lg_sl ([.ref (ad 0), .int a1, .int a2, .int a3, .int a4, .int a5]) ++ List.replicate (9 - (lg_sl ([.ref (ad 0), .int a1, .int a2, .int a3, .int a4, .int a5])).length) Slot.unset).toArray = ls at hl ⊢
  have hl : lv_has ls 9 [(0, .ref (ad 0)), (1, .int a1), (2, .int a2), (3, .int a3), (4, .int a4), (5, .int a5)] := hl
  have B50 : ∀ (s0 : Int32) (x2 : Int32) (x7 : Int32) (ls : Array Slot), q7_waysBy_50 m_ways Q s0 x2 x7 → lv_has ls 9 [(0, .ref (ad 0)), (2, .int x2), (7, .int x7)] → W p l e ({ frames := 1, cells := 0, slots := 0, locals := 22 } : Room) s m ([.ref (ad 0), .int a1, .int a2, .int a3, .int a4, .int a5] : List Value).toArray below meth c s.heap [] 0 0 (MQ below (vp_Sl Q) ([.ref (ad 0), .int a1, .int a2, .int a3, .int a4, .int a5] : List Value).toArray s 0 0 (fun _ => False)) (F0 m 50 ls [.int s0]) := by
    intro s0 x2 x7 ls hq hl
    unfold q7_waysBy_50 at hq
    refine lv_istore (lv' := [(8, .int s0), (0, .ref (ad 0)), (2, .int x2), (7, .int x7)]) hx hb dX7_waysBy_50 hl (by decide) rfl (fun ls hl => ?_)
    refine lv_iload hx hb dX7_waysBy_52 (lv_at hl 3 rfl) ?_
    refine lv_if_ge (tgt := 61) hx hb dX7_waysBy_54 (by decide) (fun c8 => ?_) (fun c8 => ?_)
    · have hq := hq.1 c8
      refine lv_aload_n hx hb dX7_waysBy_61 rfl (lv_at hl 1 rfl) ?_
      refine va_get (D := (dC, dI)) (ci := 7) (v := .ref (ad 10)) (C := RX7) (T := TX7) (N := 16) hx hb hts uwX7 hown hK hP 0 rfl rfl 12 (by decide) (hts _ fl_X7_45) (fun _ h9 => h9) rfl dX7_waysBy_62 ?_
      refine lv_iload_n hx hb dX7_waysBy_65 rfl (lv_at hl 2 rfl) ?_
      refine lv_iconst (v := (1 : Int32)) hx hb dX7_waysBy_66 (by decide) ?_
      refine lv_isub hx hb dX7_waysBy_67 ?_
      refine lv_iload hx hb dX7_waysBy_68 (lv_at hl 0 rfl) ?_
      refine lv_iload hx hb dX7_waysBy_70 (lv_at hl 3 rfl) ?_
      refine roi (runS ⟨hx, hb, hml, hown, hts⟩ ws_X7_wayAt ml_X7_133 (c7_wayAt l dC dI cs   (x2 - (1 : Int32)) s0 x7 hq) ⟨⟨rfl, rfl⟩, by decide, by decide⟩ (preR va_P_nil hK hN) hN rfl hl.1 rfl (Nat.le_of_ble_eq_true rfl) dX7_waysBy_72 ⟨(Nat.le_of_ble_eq_true rfl), (Nat.le_of_ble_eq_true rfl)⟩) (fun r9 hq => ?_)
      obtain ⟨i10, hq⟩ := hq
      refine va_lald hx hb hK hP 10 1 rfl rfl i10 dX7_waysBy_75 ?_
      exact W.lret (v := (m_ways r9.toNatClampNeg)) hx hb hr (fun t ht hW => ⟨(m_ways r9.toNatClampNeg), rfl, hq, ht⟩) (fun q h => absurd h List.not_mem_nil) dX7_waysBy_76
    · have hq := hq.2 c8
      refine lv_lconst (v := (0 : Int64)) hx hb dX7_waysBy_57 (by decide) ?_
      refine lv_goto (tgt := 76) hx hb dX7_waysBy_58 (by decide) ?_
      exact W.lret (v := (0 : Int64)) hx hb hr (fun t ht hW => ⟨(0 : Int64), rfl, hq, ht⟩) (fun q h => absurd h List.not_mem_nil) dX7_waysBy_76
  have B40 : ∀ (x2 : Int32) (x5 : Int32) (x7 : Int32) (ls : Array Slot), q7_waysBy_40 m_ways Q x2 x5 x7 → lv_has ls 9 [(0, .ref (ad 0)), (2, .int x2), (5, .int x5), (7, .int x7)] → W p l e ({ frames := 1, cells := 0, slots := 0, locals := 22 } : Room) s m ([.ref (ad 0), .int a1, .int a2, .int a3, .int a4, .int a5] : List Value).toArray below meth c s.heap [] 0 0 (MQ below (vp_Sl Q) ([.ref (ad 0), .int a1, .int a2, .int a3, .int a4, .int a5] : List Value).toArray s 0 0 (fun _ => False)) (F0 m 40 ls []) := by
    intro x2 x5 x7 ls hq hl
    unfold q7_waysBy_40 at hq
    refine lv_iload_n hx hb dX7_waysBy_40 rfl (lv_at hl 1 rfl) ?_
    refine lv_iconst (v := (1 : Int32)) hx hb dX7_waysBy_41 (by decide) ?_
    refine lv_isub hx hb dX7_waysBy_42 ?_
    refine lv_iload hx hb dX7_waysBy_43 (lv_at hl 2 rfl) ?_
    refine lv_isub hx hb dX7_waysBy_45 ?_
    refine lv_goto (tgt := 50) hx hb dX7_waysBy_46 (by decide) ?_
    exact B50 ((x2 - (1 : Int32)) - x5) x2 x7 _ hq (lv_sub hl [0, 1, 3] rfl)
  have B27 : ∀ (s0 : Int32) (s1 : Int32) (x1 : Int32) (x2 : Int32) (x3 : Int32) (x5 : Int32) (x6 : Int32) (ls : Array Slot), q7_waysBy_27 m_ways Q s0 s1 x1 x2 x3 x5 x6 → lv_has ls 9 [(0, .ref (ad 0)), (1, .int x1), (2, .int x2), (3, .int x3), (5, .int x5), (6, .int x6)] → W p l e ({ frames := 1, cells := 0, slots := 0, locals := 22 } : Room) s m ([.ref (ad 0), .int a1, .int a2, .int a3, .int a4, .int a5] : List Value).toArray below meth c s.heap [] 0 0 (MQ below (vp_Sl Q) ([.ref (ad 0), .int a1, .int a2, .int a3, .int a4, .int a5] : List Value).toArray s 0 0 (fun _ => False)) (F0 m 27 ls [.int s1, .int s0]) := by
    intro s0 s1 x1 x2 x3 x5 x6 ls hq hl
    unfold q7_waysBy_27 at hq
    refine lv_isub hx hb dX7_waysBy_27 ?_
    refine lv_istore (lv' := [(7, .int (s0 - s1)), (0, .ref (ad 0)), (1, .int x1), (2, .int x2), (3, .int x3), (5, .int x5), (6, .int x6)]) hx hb dX7_waysBy_28 hl (by decide) rfl (fun ls hl => ?_)
    refine lv_iload_n hx hb dX7_waysBy_30 rfl (lv_at hl 2 rfl) ?_
    refine lv_iconst (v := (2 : Int32)) hx hb dX7_waysBy_31 (by decide) ?_
    refine lv_icmp_eq (tgt := 40) hx hb dX7_waysBy_32 (by decide) (fun c11 => ?_) (fun c11 => ?_)
    · have hq := hq.1 c11
      exact B40 x2 x5 (s0 - s1) _ hq (lv_sub hl [1, 3, 5, 0] rfl)
    · have hq := hq.2 c11
      refine lv_iload hx hb dX7_waysBy_35 (lv_at hl 6 rfl) ?_
      refine lv_if_eq (tgt := 49) hx hb dX7_waysBy_37 (by decide) (fun c12 => ?_) (fun c12 => ?_)
      · have hq := hq.1 c12
        refine lv_iload_n hx hb dX7_waysBy_49 rfl (lv_at hl 4 rfl) ?_
        exact B50 x3 x2 (s0 - s1) _ hq (lv_sub hl [1, 3, 0] rfl)
      · have hq := hq.2 c12
        exact B40 x2 x5 (s0 - s1) _ hq (lv_sub hl [1, 3, 5, 0] rfl)
  have B13 : ∀ (s0 : Int32) (x1 : Int32) (x2 : Int32) (x3 : Int32) (x4 : Int32) (x5 : Int32) (ls : Array Slot), q7_waysBy_13 m_ways Q s0 x1 x2 x3 x4 x5 → lv_has ls 9 [(0, .ref (ad 0)), (1, .int x1), (2, .int x2), (3, .int x3), (4, .int x4), (5, .int x5)] → W p l e ({ frames := 1, cells := 0, slots := 0, locals := 22 } : Room) s m ([.ref (ad 0), .int a1, .int a2, .int a3, .int a4, .int a5] : List Value).toArray below meth c s.heap [] 0 0 (MQ below (vp_Sl Q) ([.ref (ad 0), .int a1, .int a2, .int a3, .int a4, .int a5] : List Value).toArray s 0 0 (fun _ => False)) (F0 m 13 ls [.int s0]) := by
    intro s0 x1 x2 x3 x4 x5 ls hq hl
    unfold q7_waysBy_13 at hq
    refine lv_istore (lv' := [(6, .int s0), (0, .ref (ad 0)), (1, .int x1), (2, .int x2), (3, .int x3), (4, .int x4), (5, .int x5)]) hx hb dX7_waysBy_13 hl (by decide) rfl (fun ls hl => ?_)
    refine lv_iload hx hb dX7_waysBy_15 (lv_at hl 5 rfl) ?_
    refine lv_iload hx hb dX7_waysBy_17 (lv_at hl 0 rfl) ?_
    refine lv_if_eq (tgt := 26) hx hb dX7_waysBy_19 (by decide) (fun c13 => ?_) (fun c13 => ?_)
    · have hq := hq.1 c13
      refine lv_iconst (v := (0 : Int32)) hx hb dX7_waysBy_26 (by decide) ?_
      exact B27 x4 (0 : Int32) x1 x2 x3 x5 s0 _ hq (lv_sub hl [1, 2, 3, 4, 6, 0] rfl)
    · have hq := hq.2 c13
      refine lv_iconst (v := (1 : Int32)) hx hb dX7_waysBy_22 (by decide) ?_
      refine lv_goto (tgt := 27) hx hb dX7_waysBy_23 (by decide) ?_
      exact B27 x4 (1 : Int32) x1 x2 x3 x5 s0 _ hq (lv_sub hl [1, 2, 3, 4, 6, 0] rfl)
  unfold q7_waysBy at hq
  refine lv_iload hx hb dX7_waysBy_0 (lv_at hl 5 rfl) ?_
  refine lv_iload_n hx hb dX7_waysBy_2 rfl (lv_at hl 2 rfl) ?_
  refine lv_iload_n hx hb dX7_waysBy_3 rfl (lv_at hl 3 rfl) ?_
  refine lv_isub hx hb dX7_waysBy_4 ?_
  refine lv_icmp_lt (tgt := 12) hx hb dX7_waysBy_5 (by decide) (fun c14 => ?_) (fun c14 => ?_)
  · have hq := hq.1 c14
    refine lv_iconst (v := (0 : Int32)) hx hb dX7_waysBy_12 (by decide) ?_
    exact B13 (0 : Int32) a1 a2 a3 a4 a5 _ hq (lv_sub hl [0, 1, 2, 3, 4, 5] rfl)
  · have hq := hq.2 c14
    refine lv_iconst (v := (1 : Int32)) hx hb dX7_waysBy_8 (by decide) ?_
    refine lv_goto (tgt := 13) hx hb dX7_waysBy_9 (by decide) ?_
    exact B13 (1 : Int32) a1 a2 a3 a4 a5 _ hq (lv_sub hl [0, 1, 2, 3, 4, 5] rfl)
