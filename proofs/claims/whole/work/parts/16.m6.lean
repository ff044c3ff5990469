set_option maxHeartbeats 4000000 in
set_option maxRecDepth 100000 in
theorem c7_count (l : Launch) (dC : Nat → ClassId) (dI : Nat → Nat → Nat) (cs : Nat → ClassId) (ad : Nat → Nat) (m_n : Int32) (m_order : Nat → Int32) (m_shelf : Nat → Int32) (m_opens : Int32) (m_lists : Nat → Int32) (m_listed : Nat → Int32) (m_work : Nat → Int32) (m_counts : Nat → Int64) (m_older : Nat → Int64) (m_products : Nat → Int64) (m_part : Nat → Int32) (m_parts : Int32) (m_ways : Nat → Int64) (m_used : Int32) (m_greaterNow : Int32) (m_countNow : Int32) (a1 : Int32) {Q : Int32 → Prop} (hq : q7_count m_n m_opens m_listed a1 Q) : Met l yX7_count (.code yX7_count cX7_count 4 (some .int) :: gt) ({ frames := 0, cells := 0, slots := 0, locals := 0 } : Room) (va_Pc [.ref (ad 0), .int a1] (Pr (dC, dI) (KA cs) (wX7 cs ad m_n m_order m_shelf m_opens m_lists m_listed m_work m_counts m_older m_products m_part m_parts m_ways m_used m_greaterNow m_countNow))) (vp_Si Q) 0 0 (fun _ => False) := by
  refine Met.ofW (cc := cX7_count) (maxL := 4) (ret := (some .int)) (by decide) rfl ?_
  intro p e s m args below meth c s₁ B hml hv
  obtain ⟨rfl, hP, hK, hN⟩ := hv
  have hx := B.exec
  have hb := B.bytes
  have hr := B.returns
  have hts0 := atoms_spec (ws := (.code yX7_count cX7_count 4 (some .int) :: gt)) B.pre
  have hts : ∀ w ∈ gt, w.before _ s = true := fun w h => hts0 w (List.mem_cons_of_mem _ h)
  have hown : s.vm.findClass RX7 = some m.cls := findClass_of_methodNamed B.named
  have hlocks := B.notSynchronized
  have hl := lv_entry ([.ref (ad 0), .int a1]) (n := 4) (Nat.le_of_ble_eq_true rfl)
  rw [lg_entry_eq]
  generalize (lg_sl ([.ref (ad 0), .int a1]) ++ List.replicate (4 - (lg_sl ([.ref (ad 0), .int a1])).length) Slot.unset).toArray = ls at hl ⊢
  have hl : lv_has ls 4 [(0, .ref (ad 0)), (1, .int a1)] := hl
  have B40 : ∀ (k40 : Nat) (x2 : Int32) (x3 : Int32) (ls : Array Slot), q7_count_40 m_n m_opens m_listed Q k40 x2 x3 → lv_has ls 4 [(0, .ref (ad 0)), (2, .int x2), (3, .int x3)] → W p l e ({ frames := 0, cells := 0, slots := 0, locals := 0 } : Room) s m ([.ref (ad 0), .int a1] : List Value).toArray below meth c s.heap [] 0 0 (MQ below (vp_Si Q) ([.ref (ad 0), .int a1] : List Value).toArray s 0 0 (fun _ => False)) (F0 m 40 ls []) := by
    intro k40
    induction k40 with
    | zero => intro x2 x3 ls hq; exact False.elim hq
    | succ k40 ih40 =>
      intro x2 x3 ls hq hl
      unfold q7_count_40 at hq
      refine lv_iload_n hx hb dX7_count_40 rfl (lv_at hl 2 rfl) ?_
      refine lv_aload_n hx hb dX7_count_41 rfl (lv_at hl 0 rfl) ?_
      refine va_get (D := (dC, dI)) (ci := 7) (v := .int m_n) (C := RX7) (T := TX7) (N := 16) hx hb hts uwX7 hown hK hP 0 rfl rfl 0 (by decide) (hts _ fl_X7_7) (fun _ h9 => h9) rfl dX7_count_42 ?_
      refine lv_icmp_ge (tgt := 63) hx hb dX7_count_45 (by decide) (fun c6 => ?_) (fun c6 => ?_)
      · have hq := hq.1 c6
        refine lv_iload_n hx hb dX7_count_63 rfl (lv_at hl 1 rfl) ?_
        exact W.iret (v := x2) hx hb hr (fun t ht hW => ⟨x2, rfl, hq, ht⟩) (fun q h => absurd h List.not_mem_nil) dX7_count_64
      · have hq := hq.2 c6
        refine lv_iload_n hx hb dX7_count_48 rfl (lv_at hl 1 rfl) ?_
        refine lv_aload_n hx hb dX7_count_49 rfl (lv_at hl 0 rfl) ?_
        refine va_get (D := (dC, dI)) (ci := 7) (v := .ref (ad 4)) (C := RX7) (T := TX7) (N := 16) hx hb hts uwX7 hown hK hP 0 rfl rfl 5 (by decide) (hts _ fl_X7_26) (fun _ h9 => h9) rfl dX7_count_50 ?_
        refine lv_iload_n hx hb dX7_count_53 rfl (lv_at hl 2 rfl) ?_
        obtain ⟨i7, hq⟩ := hq
        refine va_iald hx hb hK hP 4 0 rfl rfl i7 dX7_count_54 ?_
        refine lv_iadd hx hb dX7_count_55 ?_
        refine lv_istore_n (lv' := [(2, .int (x2 + (m_listed x3.toNatClampNeg))), (0, .ref (ad 0)), (3, .int x3)]) hx hb dX7_count_56 rfl hl (by decide) rfl (fun ls hl => ?_)
        refine lv_iinc (v := (x3 + (1 : Int32))) (lv' := [(3, .int (x3 + (1 : Int32))), (2, .int (x2 + (m_listed x3.toNatClampNeg))), (0, .ref (ad 0))]) hx hb dX7_count_57 hl (k := 2) rfl (by rfl) (by decide) rfl (fun ls hl => ?_)
        refine lv_goto (tgt := 40) hx hb dX7_count_60 (by decide) ?_
        exact ih40 (x2 + (m_listed x3.toNatClampNeg)) (x3 + (1 : Int32)) _ hq (lv_sub hl [2, 1, 0] rfl)
  unfold q7_count at hq
  refine lv_iconst (v := (0 : Int32)) hx hb dX7_count_0 (by decide) ?_
  refine lv_istore_n (lv' := [(2, .int (0 : Int32)), (0, .ref (ad 0)), (1, .int a1)]) hx hb dX7_count_1 rfl hl (by decide) rfl (fun ls hl => ?_)
  refine lv_iload_n hx hb dX7_count_2 rfl (lv_at hl 2 rfl) ?_
  by_cases c8 : a1 = (0 : Int32)
  · have hq := hq.1 c8
    refine lv_tableIn (tgt := 28) hx hb dX7_count_3 (by rw [c8]; decide) (by rw [c8]; decide) (by rw [c8]; rfl) (by decide) ?_
    refine lv_aload_n hx hb dX7_count_28 rfl (lv_at hl 1 rfl) ?_
    refine va_get (D := (dC, dI)) (ci := 7) (v := .int m_n) (C := RX7) (T := TX7) (N := 16) hx hb hts uwX7 hown hK hP 0 rfl rfl 0 (by decide) (hts _ fl_X7_7) (fun _ h9 => h9) rfl dX7_count_29 ?_
    exact W.iret (v := m_n) hx hb hr (fun t ht hW => ⟨m_n, rfl, hq, ht⟩) (fun q h => absurd h List.not_mem_nil) dX7_count_32
  have hq := hq.2 c8
  by_cases c9 : a1 = (1 : Int32)
  · have hq := hq.1 c9
    refine lv_tableIn (tgt := 33) hx hb dX7_count_3 (by rw [c9]; decide) (by rw [c9]; decide) (by rw [c9]; rfl) (by decide) ?_
    refine lv_aload_n hx hb dX7_count_33 rfl (lv_at hl 1 rfl) ?_
    refine va_get (D := (dC, dI)) (ci := 7) (v := .int m_opens) (C := RX7) (T := TX7) (N := 16) hx hb hts uwX7 hown hK hP 0 rfl rfl 3 (by decide) (hts _ fl_X7_20) (fun _ h9 => h9) rfl dX7_count_34 ?_
    exact W.iret (v := m_opens) hx hb hr (fun t ht hW => ⟨m_opens, rfl, hq, ht⟩) (fun q h => absurd h List.not_mem_nil) dX7_count_37
  have hq := hq.2 c9
  by_cases c10 : a1 = (2 : Int32)
  · have hq := hq.1 c10
    refine lv_tableIn (tgt := 38) hx hb dX7_count_3 (by rw [c10]; decide) (by rw [c10]; decide) (by rw [c10]; rfl) (by decide) ?_
    refine lv_iconst (v := (0 : Int32)) hx hb dX7_count_38 (by decide) ?_
    refine lv_istore_n (lv' := [(3, .int (0 : Int32)), (2, .int (0 : Int32)), (0, .ref (ad 0)), (1, .int a1)]) hx hb dX7_count_39 rfl hl (by decide) rfl (fun ls hl => ?_)
    obtain ⟨kf, hq⟩ := hq
    exact B40 kf (0 : Int32) (0 : Int32) _ hq (lv_sub hl [2, 1, 0] rfl)
  have hq := hq.2 c10
  refine lv_tableOut (tgt := 65) hx hb dX7_count_3 (by have := i32_ne c8 ; have := i32_ne c9 ; have := i32_ne c10; simp at *; omega) (by decide) ?_
  refine lv_bipush (v := (-2 : Int32)) hx hb dX7_count_65 (by decide) ?_
  exact W.iret (v := (-2 : Int32)) hx hb hr (fun t ht hW => ⟨(-2 : Int32), rfl, hq, ht⟩) (fun q h => absurd h List.not_mem_nil) dX7_count_67
