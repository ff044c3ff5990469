theorem pm3 {α : Type} (a b : List α) (x y : α) : (a ++ ([x] ++ (b ++ [y]))).Perm ([x, y] ++ (a ++ b)) := by
  have h1 : (a ++ x :: (b ++ [y])).Perm (x :: (a ++ (b ++ [y]))) := List.perm_middle
  have h2 : (a ++ (b ++ [y])).Perm (y :: (a ++ b)) := by
    rw [← List.append_assoc]
    exact List.perm_append_singleton y (a ++ b)
  exact h1.trans (h2.cons x)
theorem pm_blocks (bs : List va_W) (is : List Nat) (h : is.Perm (List.range bs.length)) : bs.flatten.Perm (is.map (fun i => bs.getD i [])).flatten := by
  have h2 : (List.range bs.length).map (fun i => bs.getD i []) = bs := by
    refine List.ext_getElem (by simp) (fun i h1 h2 => ?_)
    simp [List.getD_eq_getElem?_getD, List.getElem?_eq_getElem h2]
  have h3 := (h.map (fun i => bs.getD i [])).flatten
  rw [h2] at h3
  exact h3.symm
set_option maxHeartbeats 8000000 in
set_option maxRecDepth 100000 in
theorem c0_init (l : Launch) (dC : Nat → ClassId) (dI : Nat → Nat → Nat) (cs : Nat → ClassId) (h0 : Nat) (sz : Nat)  : Met l yX0_init (.code yX0_init cX0_init 1 none :: gt) ({ frames := 1, cells := 21, slots := 488, locals := 12 } : Room) (va_Pc [.ref h0] (Pv (dC, dI) (KA cs) [(h0, .inr (0, [.null, .null, .null]))] sz)) (va_Qv (fun u : (Nat → Nat) × (Nat → Nat) => u.1 0 = h0) (Bw (dC, dI) (KA cs) (va_A [(h0, .inr (0, [.null, .null, .null]))] sz) (fun u : (Nat → Nat) × (Nat → Nat) => wX0 cs u.1 u.2 (fun _ => 0) (fun _ => 0) (fun _ _ => 0))) (va_A [(h0, .inr (0, [.null, .null, .null]))] sz)) 21 488 (va_A [(h0, .inr (0, [.null, .null, .null]))] sz) := by
  refine Met.ofW (cc := cX0_init) (maxL := 1) (ret := none) (by decide) rfl ?_
  intro p e s m args below meth c s₁ B hml hv
  obtain ⟨rfl, ⟨hsz, hP, hK, hD0, hN⟩, hV⟩ := hv
  have hx := B.exec
  have hb := B.bytes
  have hr := B.returns
  have hts0 := atoms_spec (ws := (.code yX0_init cX0_init 1 none :: gt)) B.pre
  have hts : ∀ w ∈ gt, w.before _ s = true := fun w h => hts0 w (List.mem_cons_of_mem _ h)
  have hown : s.vm.findClass RX0 = some m.cls := findClass_of_methodNamed B.named
  have hlocks := B.notSynchronized
  have hin : meth.name = "<init>" := (name_of_methodNamed B.named B.method).1
  subst hsz
  have hD := hD0.self (sz := s.heap.size)
  generalize hAe : va_A [(h0, .inr (0, [.null, .null, .null]))] s.heap.size = A at hD ⊢
  have hA : ∀ q : Nat, s.heap.size ≤ q → A q := fun q h => by rw [← hAe]; exact Or.inr h
  have hS : va_S A s.heap s.heap [] := va_S.rf
  have hl := lv_entry ([.ref h0]) (n := 1) (Nat.le_of_ble_eq_true rfl)
  rw [lg_entry_eq]
  generalize (lg_sl ([.ref h0]) ++ List.replicate (1 - (lg_sl ([.ref h0])).length) Slot.unset).toArray = ls at hl ⊢
  have hl : lv_has ls 1 [(0, .ref h0)] := hl
  refine lv_aload_n hx hb dX0_init_0 rfl (lv_at hl 0 rfl) ?_
  refine W.objInit hx hb hown (hts _ ml_X0_3) (hts _ im_obj) (hts _ cw_obj) rfl (by rw [hml]; exact hl.1) rfl dX0_init_1 (Nat.le_of_ble_eq_true rfl) (Nat.le_of_ble_eq_true rfl) ?_
  refine W.eq (g2 := F0 m 4 ls []) rfl ?_
  refine lv_aload_n hx hb dX0_init_4 rfl (lv_at hl 0 rfl) ?_
  refine lv_bipush (v := (18 : Int32)) hx hb dX0_init_5 (by decide) ?_
  refine lv_bipush (v := (18 : Int32)) hx hb dX0_init_7 (by decide) ?_
  refine mna2 (ty := .int) (N' := 18) (K' := 18) (z := (18, .inl (fun _ => 0))) hx hb hown (by rw [show ("[" ++ (FieldType.array FieldType.int).toString) = "[[I" by decide +kernel]; exact hts _ cl_X0_9) hV.1 (hts _ ac_int) (fun _ _ h => h) (by decide +kernel) hK 5 0 rfl rfl hP hD hS hA (by decide +kernel) (by decide +kernel) (by decide +kernel) (by decide +kernel) (by decide +kernel) (by decide +kernel) (by decide +kernel) rfl rfl (Nat.le_of_ble_eq_true rfl) (Nat.le_of_ble_eq_true rfl) (fun c => arrV_new c 18 (.int 0)) dX0_init_9 (fun q1 r2 H hP hD hS => ?_)
  have hP : va_P (dC, dI) vwCl ([(h0, .inr (0, [.null, .null, .null]))] ++ (([(q1, .inl ((cs 5), 18, .inr (.inr (.inr (.inr (fun i => some (r2 i)))))))] ++ (List.range 18).map (fun i => ((r2 i, .inl ((cs 0), 18, .inl (fun _ => 0))) : Nat × va_E))))) H := hP
  have hD : va_D A ([(h0, .inr (0, [.null, .null, .null]))] ++ (([(q1, .inl ((cs 5), 18, .inr (.inr (.inr (.inr (fun i => some (r2 i)))))))] ++ (List.range 18).map (fun i => ((r2 i, .inl ((cs 0), 18, .inl (fun _ => 0))) : Nat × va_E))))) := hD
  refine va_putF (D := (dC, dI)) (ci := 0) (v := .ref q1) (ty := .array (.array .int)) (C := RX0) (T := TX0) (N := 3) hx hb hts uwX0 tyX0 tyX0_ok nmX0 hown hK hP hD hS 0 rfl rfl 0 (by decide) (hts _ fl_X0_11) (fun _ h9 => h9) rfl hin rfl (by decide +kernel) rfl rfl (Nat.le_of_ble_eq_true rfl) dX0_init_13 (fun H locs hP hD hS => ?_)
  have hP : va_P (dC, dI) vwCl ([(h0, .inr (0, [.ref q1, .null, .null]))] ++ (([(q1, .inl ((cs 5), 18, .inr (.inr (.inr (.inr (fun i => some (r2 i)))))))] ++ (List.range 18).map (fun i => ((r2 i, .inl ((cs 0), 18, .inl (fun _ => 0))) : Nat × va_E))))) H := hP
  have hD : va_D A ([(h0, .inr (0, [.ref q1, .null, .null]))] ++ (([(q1, .inl ((cs 5), 18, .inr (.inr (.inr (.inr (fun i => some (r2 i)))))))] ++ (List.range 18).map (fun i => ((r2 i, .inl ((cs 0), 18, .inl (fun _ => 0))) : Nat × va_E))))) := hD
  refine lv_aload_n hx hb dX0_init_16 rfl (lv_at hl 0 rfl) ?_
  refine lv_bipush (v := (18 : Int32)) hx hb dX0_init_17 (by decide) ?_
  refine nwa (atype := .int) (N' := 18) (a0 := (18, .inl (fun _ => 0))) hx hb (hts _ ac_int) rfl (fun _ _ h => h) hK 0 rfl hP hD hS hA (fun _ => rfl) (by decide +kernel) (by decide +kernel) (by decide +kernel) (Nat.le_of_ble_eq_true rfl) (Nat.le_of_ble_eq_true rfl) dX0_init_19 (fun q3 H hP hD hS => ?_)
  have hP : va_P (dC, dI) vwCl ([(h0, .inr (0, [.ref q1, .null, .null]))] ++ (([(q1, .inl ((cs 5), 18, .inr (.inr (.inr (.inr (fun i => some (r2 i)))))))] ++ (List.range 18).map (fun i => ((r2 i, .inl ((cs 0), 18, .inl (fun _ => 0))) : Nat × va_E))) ++ ([(q3, .inl ((cs 0), 18, .inl (fun _ => 0)))]))) H := hP
  have hD : va_D A ([(h0, .inr (0, [.ref q1, .null, .null]))] ++ (([(q1, .inl ((cs 5), 18, .inr (.inr (.inr (.inr (fun i => some (r2 i)))))))] ++ (List.range 18).map (fun i => ((r2 i, .inl ((cs 0), 18, .inl (fun _ => 0))) : Nat × va_E))) ++ ([(q3, .inl ((cs 0), 18, .inl (fun _ => 0)))]))) := hD
  refine va_putF (D := (dC, dI)) (ci := 0) (v := .ref q3) (ty := .array .int) (C := RX0) (T := TX0) (N := 3) hx hb hts uwX0 tyX0 tyX0_ok nmX0 hown hK hP hD hS 0 rfl rfl 1 (by decide) (hts _ fl_X0_16) (fun _ h9 => h9) rfl hin rfl (by decide +kernel) rfl rfl (Nat.le_of_ble_eq_true rfl) dX0_init_21 (fun H locs hP hD hS => ?_)
  have hP : va_P (dC, dI) vwCl ([(h0, .inr (0, [.ref q1, .ref q3, .null]))] ++ (([(q1, .inl ((cs 5), 18, .inr (.inr (.inr (.inr (fun i => some (r2 i)))))))] ++ (List.range 18).map (fun i => ((r2 i, .inl ((cs 0), 18, .inl (fun _ => 0))) : Nat × va_E))) ++ ([(q3, .inl ((cs 0), 18, .inl (fun _ => 0)))]))) H := hP
  have hD : va_D A ([(h0, .inr (0, [.ref q1, .ref q3, .null]))] ++ (([(q1, .inl ((cs 5), 18, .inr (.inr (.inr (.inr (fun i => some (r2 i)))))))] ++ (List.range 18).map (fun i => ((r2 i, .inl ((cs 0), 18, .inl (fun _ => 0))) : Nat × va_E))) ++ ([(q3, .inl ((cs 0), 18, .inl (fun _ => 0)))]))) := hD
  refine lv_aload_n hx hb dX0_init_24 rfl (lv_at hl 0 rfl) ?_
  refine lv_sipush (v := (128 : Int32)) hx hb dX0_init_25 (by decide) ?_
  refine nwa (atype := .long) (N' := 128) (a0 := (128, .inr (.inl (fun _ => 0)))) hx hb (hts _ ac_long) rfl (fun _ _ h => h) hK 1 rfl hP hD hS hA (fun _ => rfl) (by decide +kernel) (by decide +kernel) (by decide +kernel) (Nat.le_of_ble_eq_true rfl) (Nat.le_of_ble_eq_true rfl) dX0_init_28 (fun q4 H hP hD hS => ?_)
  have hP : va_P (dC, dI) vwCl ([(h0, .inr (0, [.ref q1, .ref q3, .null]))] ++ (([(q1, .inl ((cs 5), 18, .inr (.inr (.inr (.inr (fun i => some (r2 i)))))))] ++ (List.range 18).map (fun i => ((r2 i, .inl ((cs 0), 18, .inl (fun _ => 0))) : Nat × va_E))) ++ ([(q3, .inl ((cs 0), 18, .inl (fun _ => 0)))] ++ ([(q4, .inl ((cs 1), 128, .inr (.inl (fun _ => 0))))])))) H := hP
  have hD : va_D A ([(h0, .inr (0, [.ref q1, .ref q3, .null]))] ++ (([(q1, .inl ((cs 5), 18, .inr (.inr (.inr (.inr (fun i => some (r2 i)))))))] ++ (List.range 18).map (fun i => ((r2 i, .inl ((cs 0), 18, .inl (fun _ => 0))) : Nat × va_E))) ++ ([(q3, .inl ((cs 0), 18, .inl (fun _ => 0)))] ++ ([(q4, .inl ((cs 1), 128, .inr (.inl (fun _ => 0))))])))) := hD
  refine va_putF (D := (dC, dI)) (ci := 0) (v := .ref q4) (ty := .array .long) (C := RX0) (T := TX0) (N := 3) hx hb hts uwX0 tyX0 tyX0_ok nmX0 hown hK hP hD hS 0 rfl rfl 2 (by decide) (hts _ fl_X0_20) (fun _ h9 => h9) rfl hin rfl (by decide +kernel) rfl rfl (Nat.le_of_ble_eq_true rfl) dX0_init_30 (fun H locs hP hD hS => ?_)
  have hP : va_P (dC, dI) vwCl ([(h0, .inr (0, [.ref q1, .ref q3, .ref q4]))] ++ (([(q1, .inl ((cs 5), 18, .inr (.inr (.inr (.inr (fun i => some (r2 i)))))))] ++ (List.range 18).map (fun i => ((r2 i, .inl ((cs 0), 18, .inl (fun _ => 0))) : Nat × va_E))) ++ ([(q3, .inl ((cs 0), 18, .inl (fun _ => 0)))] ++ ([(q4, .inl ((cs 1), 128, .inr (.inl (fun _ => 0))))])))) H := hP
  have hD : va_D A ([(h0, .inr (0, [.ref q1, .ref q3, .ref q4]))] ++ (([(q1, .inl ((cs 5), 18, .inr (.inr (.inr (.inr (fun i => some (r2 i)))))))] ++ (List.range 18).map (fun i => ((r2 i, .inl ((cs 0), 18, .inl (fun _ => 0))) : Nat × va_E))) ++ ([(q3, .inl ((cs 0), 18, .inl (fun _ => 0)))] ++ ([(q4, .inl ((cs 1), 128, .inr (.inl (fun _ => 0))))])))) := hD
  have hp9 : (([(h0, .inr (0, [.ref q1, .ref q3, .ref q4]))] ++ (([(q1, .inl ((cs 5), 18, .inr (.inr (.inr (.inr (fun i => some (r2 i)))))))] ++ (List.range 18).map (fun i => ((r2 i, .inl ((cs 0), 18, .inl (fun _ => 0))) : Nat × va_E))) ++ ([(q3, .inl ((cs 0), 18, .inl (fun _ => 0)))] ++ ([(q4, .inl ((cs 1), 128, .inr (.inl (fun _ => 0))))])))) : va_W).Perm (wX0 cs (fun k => ([h0, q1, q3, q4] : List Nat).getD k 0) r2 (fun _ => 0) (fun _ => 0) (fun _ _ => 0)) := List.Perm.append_left (([(h0, .inr (0, [.ref q1, .ref q3, .ref q4]))] ++ [(q1, .inl ((cs 5), 18, .inr (.inr (.inr (.inr (fun i => some (r2 i)))))))]) : va_W) (List.perm_append_comm (l₁ := ((List.range 18).map (fun i => ((r2 i, .inl ((cs 0), 18, .inl (fun _ => 0))) : Nat × va_E)) : va_W)) (l₂ := (([(q3, .inl ((cs 0), 18, .inl (fun _ => 0)))] ++ [(q4, .inl ((cs 1), 128, .inr (.inl (fun _ => 0))))]) : va_W)))
  have hP := va_P_perm hp9 hP
  have hD := va_D_perm hp9 hD
  exact W.vret hx hb hr (fun t ht hW => ⟨⟨((fun k => ([h0, q1, q3, q4] : List Nat).getD k 0), r2), rfl, rfl, Bw_mk (by rw [ht]; exact hP) (va_K.moved hW.alike hK) hD⟩, hS.F ht⟩) hS.2.2 dX0_init_33
def q3_init (Q : (Nat → Int64) → (Nat → Int64) → (Nat → Nat → Int64) → (Nat → Nat → Int64) → (Nat → Int64) → Prop) : Prop := q3_fillFactorials (fun _ => 0) (fun t_fac => q3_fillDeranged (fun _ => 0) (fun t_der => q3_fillRecords (fun _ _ => 0) (fun t_rec => q3_fillRoundsUpTo (fun _ _ => 0) (fun t_rut => q3_fillRises (fun _ => 0) (fun t_ris => Q t_fac t_der t_rec t_rut t_ris)))))
set_option maxHeartbeats 8000000 in
set_option maxRecDepth 100000 in
theorem c3_init (l : Launch) (dC : Nat → ClassId) (dI : Nat → Nat → Nat) (cs : Nat → ClassId) (h0 : Nat) (sz : Nat) {Q : (Nat → Int64) → (Nat → Int64) → (Nat → Nat → Int64) → (Nat → Nat → Int64) → (Nat → Int64) → Prop} (hq : q3_init Q) : Met l yX3_init (.code yX3_init cX3_init 1 none :: gt) ({ frames := 4, cells := 43, slots := 3268, locals := 92 } : Room) (va_Pc [.ref h0] (Pv (dC, dI) (KA cs) [(h0, .inr (3, [.null, .null, .null, .null, .null]))] sz)) (va_Qv (fun u : (Nat → Nat) × (Nat → Nat) × (Nat → Nat) × (Nat → Int64) × (Nat → Int64) × (Nat → Nat → Int64) × (Nat → Nat → Int64) × (Nat → Int64) => u.1 0 = h0 ∧ Q u.2.2.2.1 u.2.2.2.2.1 u.2.2.2.2.2.1 u.2.2.2.2.2.2.1 u.2.2.2.2.2.2.2) (Bw (dC, dI) (KA cs) (va_A [(h0, .inr (3, [.null, .null, .null, .null, .null]))] sz) (fun u : (Nat → Nat) × (Nat → Nat) × (Nat → Nat) × (Nat → Int64) × (Nat → Int64) × (Nat → Nat → Int64) × (Nat → Nat → Int64) × (Nat → Int64) => wX3 cs u.1 u.2.1 u.2.2.1 u.2.2.2.1 u.2.2.2.2.1 u.2.2.2.2.2.1 u.2.2.2.2.2.2.1 u.2.2.2.2.2.2.2)) (va_A [(h0, .inr (3, [.null, .null, .null, .null, .null]))] sz)) 43 3268 (va_A [(h0, .inr (3, [.null, .null, .null, .null, .null]))] sz) := by
  refine Met.ofW (cc := cX3_init) (maxL := 1) (ret := none) (by decide) rfl ?_
  intro p e s m args below meth c s₁ B hml hv
  obtain ⟨rfl, ⟨hsz, hP, hK, hD0, hN⟩, hV⟩ := hv
  have hx := B.exec
  have hb := B.bytes
  have hr := B.returns
  have hts0 := atoms_spec (ws := (.code yX3_init cX3_init 1 none :: gt)) B.pre
  have hts : ∀ w ∈ gt, w.before _ s = true := fun w h => hts0 w (List.mem_cons_of_mem _ h)
  have hown : s.vm.findClass RX3 = some m.cls := findClass_of_methodNamed B.named
  have hlocks := B.notSynchronized
  have hin : meth.name = "<init>" := (name_of_methodNamed B.named B.method).1
  subst hsz
  have hD := hD0.self (sz := s.heap.size)
  generalize hAe : va_A [(h0, .inr (3, [.null, .null, .null, .null, .null]))] s.heap.size = A at hD ⊢
  have hA : ∀ q : Nat, s.heap.size ≤ q → A q := fun q h => by rw [← hAe]; exact Or.inr h
  have hS : va_S A s.heap s.heap [] := va_S.rf
  have hl := lv_entry ([.ref h0]) (n := 1) (Nat.le_of_ble_eq_true rfl)
  rw [lg_entry_eq]
  generalize (lg_sl ([.ref h0]) ++ List.replicate (1 - (lg_sl ([.ref h0])).length) Slot.unset).toArray = ls at hl ⊢
  have hl : lv_has ls 1 [(0, .ref h0)] := hl
  refine lv_aload_n hx hb dX3_init_0 rfl (lv_at hl 0 rfl) ?_
  refine W.objInit hx hb hown (hts _ ml_X3_3) (hts _ im_obj) (hts _ cw_obj) rfl (by rw [hml]; exact hl.1) rfl dX3_init_1 (Nat.le_of_ble_eq_true rfl) (Nat.le_of_ble_eq_true rfl) ?_
  refine W.eq (g2 := F0 m 4 ls []) rfl ?_
  refine lv_aload_n hx hb dX3_init_4 rfl (lv_at hl 0 rfl) ?_
  refine lv_bipush (v := (19 : Int32)) hx hb dX3_init_5 (by decide) ?_
  refine nwa (atype := .long) (N' := 19) (a0 := (19, .inr (.inl (fun _ => 0)))) hx hb (hts _ ac_long) rfl (fun _ _ h => h) hK 1 rfl hP hD hS hA (fun _ => rfl) (by decide +kernel) (by decide +kernel) (by decide +kernel) (Nat.le_of_ble_eq_true rfl) (Nat.le_of_ble_eq_true rfl) dX3_init_7 (fun q1 H hP hD hS => ?_)
  have hP : va_P (dC, dI) vwCl ([(h0, .inr (3, [.null, .null, .null, .null, .null]))] ++ ([(q1, .inl ((cs 1), 19, .inr (.inl (fun _ => 0))))])) H := hP
  have hD : va_D A ([(h0, .inr (3, [.null, .null, .null, .null, .null]))] ++ ([(q1, .inl ((cs 1), 19, .inr (.inl (fun _ => 0))))])) := hD
  refine va_putF (D := (dC, dI)) (ci := 3) (v := .ref q1) (ty := .array .long) (C := RX3) (T := TX3) (N := 5) hx hb hts uwX3 tyX3 tyX3_ok nmX3 hown hK hP hD hS 0 rfl rfl 0 (by decide) (hts _ fl_X3_9) (fun _ h9 => h9) rfl hin rfl (by decide +kernel) rfl rfl (Nat.le_of_ble_eq_true rfl) dX3_init_9 (fun H locs hP hD hS => ?_)
  have hP : va_P (dC, dI) vwCl ([(h0, .inr (3, [.ref q1, .null, .null, .null, .null]))] ++ ([(q1, .inl ((cs 1), 19, .inr (.inl (fun _ => 0))))])) H := hP
  have hD : va_D A ([(h0, .inr (3, [.ref q1, .null, .null, .null, .null]))] ++ ([(q1, .inl ((cs 1), 19, .inr (.inl (fun _ => 0))))])) := hD
  refine lv_aload_n hx hb dX3_init_12 rfl (lv_at hl 0 rfl) ?_
  refine lv_bipush (v := (19 : Int32)) hx hb dX3_init_13 (by decide) ?_
  refine nwa (atype := .long) (N' := 19) (a0 := (19, .inr (.inl (fun _ => 0)))) hx hb (hts _ ac_long) rfl (fun _ _ h => h) hK 1 rfl hP hD hS hA (fun _ => rfl) (by decide +kernel) (by decide +kernel) (by decide +kernel) (Nat.le_of_ble_eq_true rfl) (Nat.le_of_ble_eq_true rfl) dX3_init_15 (fun q2 H hP hD hS => ?_)
  have hP : va_P (dC, dI) vwCl ([(h0, .inr (3, [.ref q1, .null, .null, .null, .null]))] ++ ([(q1, .inl ((cs 1), 19, .inr (.inl (fun _ => 0))))] ++ ([(q2, .inl ((cs 1), 19, .inr (.inl (fun _ => 0))))]))) H := hP
  have hD : va_D A ([(h0, .inr (3, [.ref q1, .null, .null, .null, .null]))] ++ ([(q1, .inl ((cs 1), 19, .inr (.inl (fun _ => 0))))] ++ ([(q2, .inl ((cs 1), 19, .inr (.inl (fun _ => 0))))]))) := hD
  refine va_putF (D := (dC, dI)) (ci := 3) (v := .ref q2) (ty := .array .long) (C := RX3) (T := TX3) (N := 5) hx hb hts uwX3 tyX3 tyX3_ok nmX3 hown hK hP hD hS 0 rfl rfl 1 (by decide) (hts _ fl_X3_15) (fun _ h9 => h9) rfl hin rfl (by decide +kernel) rfl rfl (Nat.le_of_ble_eq_true rfl) dX3_init_17 (fun H locs hP hD hS => ?_)
  have hP : va_P (dC, dI) vwCl ([(h0, .inr (3, [.ref q1, .ref q2, .null, .null, .null]))] ++ ([(q1, .inl ((cs 1), 19, .inr (.inl (fun _ => 0))))] ++ ([(q2, .inl ((cs 1), 19, .inr (.inl (fun _ => 0))))]))) H := hP
  have hD : va_D A ([(h0, .inr (3, [.ref q1, .ref q2, .null, .null, .null]))] ++ ([(q1, .inl ((cs 1), 19, .inr (.inl (fun _ => 0))))] ++ ([(q2, .inl ((cs 1), 19, .inr (.inl (fun _ => 0))))]))) := hD
  refine lv_aload_n hx hb dX3_init_20 rfl (lv_at hl 0 rfl) ?_
  refine lv_bipush (v := (19 : Int32)) hx hb dX3_init_21 (by decide) ?_
  refine lv_bipush (v := (19 : Int32)) hx hb dX3_init_23 (by decide) ?_
  refine mna2 (ty := .long) (N' := 19) (K' := 19) (z := (19, .inr (.inl (fun _ => 0)))) hx hb hown (by rw [show ("[" ++ (FieldType.array FieldType.long).toString) = "[[J" by decide +kernel]; exact hts _ cl_X3_18) hV.2 (hts _ ac_long) (fun _ _ h => h) (by decide +kernel) hK 6 1 rfl rfl hP hD hS hA (by decide +kernel) (by decide +kernel) (by decide +kernel) (by decide +kernel) (by decide +kernel) (by decide +kernel) (by decide +kernel) rfl rfl (Nat.le_of_ble_eq_true rfl) (Nat.le_of_ble_eq_true rfl) (fun c => arrV_new c 19 (.long 0)) dX3_init_25 (fun q3 r4 H hP hD hS => ?_)
  have hP : va_P (dC, dI) vwCl ([(h0, .inr (3, [.ref q1, .ref q2, .null, .null, .null]))] ++ ([(q1, .inl ((cs 1), 19, .inr (.inl (fun _ => 0))))] ++ ([(q2, .inl ((cs 1), 19, .inr (.inl (fun _ => 0))))] ++ (([(q3, .inl ((cs 6), 19, .inr (.inr (.inr (.inr (fun i => some (r4 i)))))))] ++ (List.range 19).map (fun i => ((r4 i, .inl ((cs 1), 19, .inr (.inl (fun _ => 0)))) : Nat × va_E))))))) H := hP
  have hD : va_D A ([(h0, .inr (3, [.ref q1, .ref q2, .null, .null, .null]))] ++ ([(q1, .inl ((cs 1), 19, .inr (.inl (fun _ => 0))))] ++ ([(q2, .inl ((cs 1), 19, .inr (.inl (fun _ => 0))))] ++ (([(q3, .inl ((cs 6), 19, .inr (.inr (.inr (.inr (fun i => some (r4 i)))))))] ++ (List.range 19).map (fun i => ((r4 i, .inl ((cs 1), 19, .inr (.inl (fun _ => 0)))) : Nat × va_E))))))) := hD
  refine va_putF (D := (dC, dI)) (ci := 3) (v := .ref q3) (ty := .array (.array .long)) (C := RX3) (T := TX3) (N := 5) hx hb hts uwX3 tyX3 tyX3_ok nmX3 hown hK hP hD hS 0 rfl rfl 2 (by decide) (hts _ fl_X3_20) (fun _ h9 => h9) rfl hin rfl (by decide +kernel) rfl rfl (Nat.le_of_ble_eq_true rfl) dX3_init_29 (fun H locs hP hD hS => ?_)
  have hP : va_P (dC, dI) vwCl ([(h0, .inr (3, [.ref q1, .ref q2, .ref q3, .null, .null]))] ++ ([(q1, .inl ((cs 1), 19, .inr (.inl (fun _ => 0))))] ++ ([(q2, .inl ((cs 1), 19, .inr (.inl (fun _ => 0))))] ++ (([(q3, .inl ((cs 6), 19, .inr (.inr (.inr (.inr (fun i => some (r4 i)))))))] ++ (List.range 19).map (fun i => ((r4 i, .inl ((cs 1), 19, .inr (.inl (fun _ => 0)))) : Nat × va_E))))))) H := hP
  have hD : va_D A ([(h0, .inr (3, [.ref q1, .ref q2, .ref q3, .null, .null]))] ++ ([(q1, .inl ((cs 1), 19, .inr (.inl (fun _ => 0))))] ++ ([(q2, .inl ((cs 1), 19, .inr (.inl (fun _ => 0))))] ++ (([(q3, .inl ((cs 6), 19, .inr (.inr (.inr (.inr (fun i => some (r4 i)))))))] ++ (List.range 19).map (fun i => ((r4 i, .inl ((cs 1), 19, .inr (.inl (fun _ => 0)))) : Nat × va_E))))))) := hD
  refine lv_aload_n hx hb dX3_init_32 rfl (lv_at hl 0 rfl) ?_
  refine lv_bipush (v := (19 : Int32)) hx hb dX3_init_33 (by decide) ?_
  refine lv_bipush (v := (19 : Int32)) hx hb dX3_init_35 (by decide) ?_
  refine mna2 (ty := .long) (N' := 19) (K' := 19) (z := (19, .inr (.inl (fun _ => 0)))) hx hb hown (by rw [show ("[" ++ (FieldType.array FieldType.long).toString) = "[[J" by decide +kernel]; exact hts _ cl_X3_18) hV.2 (hts _ ac_long) (fun _ _ h => h) (by decide +kernel) hK 6 1 rfl rfl hP hD hS hA (by decide +kernel) (by decide +kernel) (by decide +kernel) (by decide +kernel) (by decide +kernel) (by decide +kernel) (by decide +kernel) rfl rfl (Nat.le_of_ble_eq_true rfl) (Nat.le_of_ble_eq_true rfl) (fun c => arrV_new c 19 (.long 0)) dX3_init_37 (fun q5 r6 H hP hD hS => ?_)
  have hP : va_P (dC, dI) vwCl ([(h0, .inr (3, [.ref q1, .ref q2, .ref q3, .null, .null]))] ++ ([(q1, .inl ((cs 1), 19, .inr (.inl (fun _ => 0))))] ++ ([(q2, .inl ((cs 1), 19, .inr (.inl (fun _ => 0))))] ++ (([(q3, .inl ((cs 6), 19, .inr (.inr (.inr (.inr (fun i => some (r4 i)))))))] ++ (List.range 19).map (fun i => ((r4 i, .inl ((cs 1), 19, .inr (.inl (fun _ => 0)))) : Nat × va_E))) ++ (([(q5, .inl ((cs 6), 19, .inr (.inr (.inr (.inr (fun i => some (r6 i)))))))] ++ (List.range 19).map (fun i => ((r6 i, .inl ((cs 1), 19, .inr (.inl (fun _ => 0)))) : Nat × va_E)))))))) H := hP
  have hD : va_D A ([(h0, .inr (3, [.ref q1, .ref q2, .ref q3, .null, .null]))] ++ ([(q1, .inl ((cs 1), 19, .inr (.inl (fun _ => 0))))] ++ ([(q2, .inl ((cs 1), 19, .inr (.inl (fun _ => 0))))] ++ (([(q3, .inl ((cs 6), 19, .inr (.inr (.inr (.inr (fun i => some (r4 i)))))))] ++ (List.range 19).map (fun i => ((r4 i, .inl ((cs 1), 19, .inr (.inl (fun _ => 0)))) : Nat × va_E))) ++ (([(q5, .inl ((cs 6), 19, .inr (.inr (.inr (.inr (fun i => some (r6 i)))))))] ++ (List.range 19).map (fun i => ((r6 i, .inl ((cs 1), 19, .inr (.inl (fun _ => 0)))) : Nat × va_E)))))))) := hD
  refine va_putF (D := (dC, dI)) (ci := 3) (v := .ref q5) (ty := .array (.array .long)) (C := RX3) (T := TX3) (N := 5) hx hb hts uwX3 tyX3 tyX3_ok nmX3 hown hK hP hD hS 0 rfl rfl 3 (by decide) (hts _ fl_X3_23) (fun _ h9 => h9) rfl hin rfl (by decide +kernel) rfl rfl (Nat.le_of_ble_eq_true rfl) dX3_init_41 (fun H locs hP hD hS => ?_)
  have hP : va_P (dC, dI) vwCl ([(h0, .inr (3, [.ref q1, .ref q2, .ref q3, .ref q5, .null]))] ++ ([(q1, .inl ((cs 1), 19, .inr (.inl (fun _ => 0))))] ++ ([(q2, .inl ((cs 1), 19, .inr (.inl (fun _ => 0))))] ++ (([(q3, .inl ((cs 6), 19, .inr (.inr (.inr (.inr (fun i => some (r4 i)))))))] ++ (List.range 19).map (fun i => ((r4 i, .inl ((cs 1), 19, .inr (.inl (fun _ => 0)))) : Nat × va_E))) ++ (([(q5, .inl ((cs 6), 19, .inr (.inr (.inr (.inr (fun i => some (r6 i)))))))] ++ (List.range 19).map (fun i => ((r6 i, .inl ((cs 1), 19, .inr (.inl (fun _ => 0)))) : Nat × va_E)))))))) H := hP
  have hD : va_D A ([(h0, .inr (3, [.ref q1, .ref q2, .ref q3, .ref q5, .null]))] ++ ([(q1, .inl ((cs 1), 19, .inr (.inl (fun _ => 0))))] ++ ([(q2, .inl ((cs 1), 19, .inr (.inl (fun _ => 0))))] ++ (([(q3, .inl ((cs 6), 19, .inr (.inr (.inr (.inr (fun i => some (r4 i)))))))] ++ (List.range 19).map (fun i => ((r4 i, .inl ((cs 1), 19, .inr (.inl (fun _ => 0)))) : Nat × va_E))) ++ (([(q5, .inl ((cs 6), 19, .inr (.inr (.inr (.inr (fun i => some (r6 i)))))))] ++ (List.range 19).map (fun i => ((r6 i, .inl ((cs 1), 19, .inr (.inl (fun _ => 0)))) : Nat × va_E)))))))) := hD
  refine lv_aload_n hx hb dX3_init_44 rfl (lv_at hl 0 rfl) ?_
  refine lv_bipush (v := (19 : Int32)) hx hb dX3_init_45 (by decide) ?_
  refine lv_iconst (v := (0 : Int32)) hx hb dX3_init_47 (by decide) ?_
  refine lv_iconst (v := (0 : Int32)) hx hb dX3_init_48 (by decide) ?_
  refine roi (runS ⟨hx, hb, hml, hown, hts⟩ ws_X3_riseSlot ml_X3_26 (c3_riseSlot l dC dI cs (19 : Int32) (0 : Int32) (0 : Int32) (Q := fun r => r = (2470 : Int32)) (by unfold q3_riseSlot; decide +kernel)) ⟨⟨rfl, rfl⟩, by decide, by decide⟩ (preR va_P_nil hK hN) hN rfl hl.1 rfl (Nat.le_of_ble_eq_true rfl) dX3_init_49 ⟨(Nat.le_of_ble_eq_true rfl), (Nat.le_of_ble_eq_true rfl)⟩) (fun r9 hr9 => ?_)
  subst hr9
  refine nwa (atype := .long) (N' := 2470) (a0 := (2470, .inr (.inl (fun _ => 0)))) hx hb (hts _ ac_long) rfl (fun _ _ h => h) hK 1 rfl hP hD hS hA (fun _ => rfl) (by decide +kernel) (by decide +kernel) (by decide +kernel) (Nat.le_of_ble_eq_true rfl) (Nat.le_of_ble_eq_true rfl) dX3_init_52 (fun q7 H hP hD hS => ?_)
  have hP : va_P (dC, dI) vwCl ([(h0, .inr (3, [.ref q1, .ref q2, .ref q3, .ref q5, .null]))] ++ ([(q1, .inl ((cs 1), 19, .inr (.inl (fun _ => 0))))] ++ ([(q2, .inl ((cs 1), 19, .inr (.inl (fun _ => 0))))] ++ (([(q3, .inl ((cs 6), 19, .inr (.inr (.inr (.inr (fun i => some (r4 i)))))))] ++ (List.range 19).map (fun i => ((r4 i, .inl ((cs 1), 19, .inr (.inl (fun _ => 0)))) : Nat × va_E))) ++ (([(q5, .inl ((cs 6), 19, .inr (.inr (.inr (.inr (fun i => some (r6 i)))))))] ++ (List.range 19).map (fun i => ((r6 i, .inl ((cs 1), 19, .inr (.inl (fun _ => 0)))) : Nat × va_E))) ++ ([(q7, .inl ((cs 1), 2470, .inr (.inl (fun _ => 0))))])))))) H := hP
  have hD : va_D A ([(h0, .inr (3, [.ref q1, .ref q2, .ref q3, .ref q5, .null]))] ++ ([(q1, .inl ((cs 1), 19, .inr (.inl (fun _ => 0))))] ++ ([(q2, .inl ((cs 1), 19, .inr (.inl (fun _ => 0))))] ++ (([(q3, .inl ((cs 6), 19, .inr (.inr (.inr (.inr (fun i => some (r4 i)))))))] ++ (List.range 19).map (fun i => ((r4 i, .inl ((cs 1), 19, .inr (.inl (fun _ => 0)))) : Nat × va_E))) ++ (([(q5, .inl ((cs 6), 19, .inr (.inr (.inr (.inr (fun i => some (r6 i)))))))] ++ (List.range 19).map (fun i => ((r6 i, .inl ((cs 1), 19, .inr (.inl (fun _ => 0)))) : Nat × va_E))) ++ ([(q7, .inl ((cs 1), 2470, .inr (.inl (fun _ => 0))))])))))) := hD
  refine va_putF (D := (dC, dI)) (ci := 3) (v := .ref q7) (ty := .array .long) (C := RX3) (T := TX3) (N := 5) hx hb hts uwX3 tyX3 tyX3_ok nmX3 hown hK hP hD hS 0 rfl rfl 4 (by decide) (hts _ fl_X3_30) (fun _ h9 => h9) rfl hin rfl (by decide +kernel) rfl rfl (Nat.le_of_ble_eq_true rfl) dX3_init_54 (fun H locs hP hD hS => ?_)
  have hP : va_P (dC, dI) vwCl ([(h0, .inr (3, [.ref q1, .ref q2, .ref q3, .ref q5, .ref q7]))] ++ ([(q1, .inl ((cs 1), 19, .inr (.inl (fun _ => 0))))] ++ ([(q2, .inl ((cs 1), 19, .inr (.inl (fun _ => 0))))] ++ (([(q3, .inl ((cs 6), 19, .inr (.inr (.inr (.inr (fun i => some (r4 i)))))))] ++ (List.range 19).map (fun i => ((r4 i, .inl ((cs 1), 19, .inr (.inl (fun _ => 0)))) : Nat × va_E))) ++ (([(q5, .inl ((cs 6), 19, .inr (.inr (.inr (.inr (fun i => some (r6 i)))))))] ++ (List.range 19).map (fun i => ((r6 i, .inl ((cs 1), 19, .inr (.inl (fun _ => 0)))) : Nat × va_E))) ++ ([(q7, .inl ((cs 1), 2470, .inr (.inl (fun _ => 0))))])))))) H := hP
  have hD : va_D A ([(h0, .inr (3, [.ref q1, .ref q2, .ref q3, .ref q5, .ref q7]))] ++ ([(q1, .inl ((cs 1), 19, .inr (.inl (fun _ => 0))))] ++ ([(q2, .inl ((cs 1), 19, .inr (.inl (fun _ => 0))))] ++ (([(q3, .inl ((cs 6), 19, .inr (.inr (.inr (.inr (fun i => some (r4 i)))))))] ++ (List.range 19).map (fun i => ((r4 i, .inl ((cs 1), 19, .inr (.inl (fun _ => 0)))) : Nat × va_E))) ++ (([(q5, .inl ((cs 6), 19, .inr (.inr (.inr (.inr (fun i => some (r6 i)))))))] ++ (List.range 19).map (fun i => ((r6 i, .inl ((cs 1), 19, .inr (.inl (fun _ => 0)))) : Nat × va_E))) ++ ([(q7, .inl ((cs 1), 2470, .inr (.inl (fun _ => 0))))])))))) := hD
  have hp9 : (([(h0, .inr (3, [.ref q1, .ref q2, .ref q3, .ref q5, .ref q7]))] ++ ([(q1, .inl ((cs 1), 19, .inr (.inl (fun _ => 0))))] ++ ([(q2, .inl ((cs 1), 19, .inr (.inl (fun _ => 0))))] ++ (([(q3, .inl ((cs 6), 19, .inr (.inr (.inr (.inr (fun i => some (r4 i)))))))] ++ (List.range 19).map (fun i => ((r4 i, .inl ((cs 1), 19, .inr (.inl (fun _ => 0)))) : Nat × va_E))) ++ (([(q5, .inl ((cs 6), 19, .inr (.inr (.inr (.inr (fun i => some (r6 i)))))))] ++ (List.range 19).map (fun i => ((r6 i, .inl ((cs 1), 19, .inr (.inl (fun _ => 0)))) : Nat × va_E))) ++ ([(q7, .inl ((cs 1), 2470, .inr (.inl (fun _ => 0))))])))))) : va_W).Perm (wX3 cs (fun k => ([h0, q1, q2, q3, q5, q7] : List Nat).getD k 0) r4 r6 (fun _ => 0) (fun _ => 0) (fun _ _ => 0) (fun _ _ => 0) (fun _ => 0)) := List.Perm.append_left (([(h0, .inr (3, [.ref q1, .ref q2, .ref q3, .ref q5, .ref q7]))] ++ [(q1, .inl ((cs 1), 19, .inr (.inl (fun _ => 0))))] ++ [(q2, .inl ((cs 1), 19, .inr (.inl (fun _ => 0))))] ++ [(q3, .inl ((cs 6), 19, .inr (.inr (.inr (.inr (fun i => some (r4 i)))))))]) : va_W) (pm3 (((List.range 19).map (fun i => ((r4 i, .inl ((cs 1), 19, .inr (.inl (fun _ => 0)))) : Nat × va_E))) : va_W) (((List.range 19).map (fun i => ((r6 i, .inl ((cs 1), 19, .inr (.inl (fun _ => 0)))) : Nat × va_E))) : va_W) ((q5, .inl ((cs 6), 19, .inr (.inr (.inr (.inr (fun i => some (r6 i))))))) : Nat × va_E) ((q7, .inl ((cs 1), 2470, .inr (.inl (fun _ => 0)))) : Nat × va_E))
  have hP := va_P_perm hp9 hP
  have hD := va_D_perm hp9 hD
  unfold q3_init at hq
  refine lv_aload_n hx hb dX3_init_57 rfl (lv_at hl 0 rfl) ?_
  refine swv (runV ⟨hx, hb, hml, hown, hts⟩ wf_X3_fillFactorials ml_X3_33 (c3_fillFactorials l dC dI cs (fun k => ([h0, q1, q2, q3, q5, q7] : List Nat).getD k 0) r4 r6 _ (fun _ => 0) (fun _ => 0) (fun _ _ => 0) (fun _ _ => 0) (fun _ => 0) hq) ⟨⟨rfl, rfl⟩, by decide, by decide⟩ (preW hP hK hN hD) hK hP rfl 0 rfl rfl hl.1 rfl (Nat.le_of_ble_eq_true rfl) dX3_init_58 ⟨(Nat.le_of_ble_eq_true rfl), (Nat.le_of_ble_eq_true rfl)⟩) hD hS hA (fun t_fac_1 H locs hq hP hD hS => ?_)
  have hP : va_P (dC, dI) vwCl (wX3 cs (fun k => ([h0, q1, q2, q3, q5, q7] : List Nat).getD k 0) r4 r6 t_fac_1 (fun _ => 0) (fun _ _ => 0) (fun _ _ => 0) (fun _ => 0)) H := hP
  have hD : va_D A (wX3 cs (fun k => ([h0, q1, q2, q3, q5, q7] : List Nat).getD k 0) r4 r6 t_fac_1 (fun _ => 0) (fun _ _ => 0) (fun _ _ => 0) (fun _ => 0)) := hD
  refine lv_aload_n hx hb dX3_init_61 rfl (lv_at hl 0 rfl) ?_
  refine swv (runV ⟨hx, hb, hml, hown, hts⟩ wf_X3_fillDeranged ml_X3_36 (c3_fillDeranged l dC dI cs (fun k => ([h0, q1, q2, q3, q5, q7] : List Nat).getD k 0) r4 r6 _ t_fac_1 (fun _ => 0) (fun _ _ => 0) (fun _ _ => 0) (fun _ => 0) hq) ⟨⟨rfl, rfl⟩, by decide, by decide⟩ (preW hP hK hN hD) hK hP rfl 0 rfl rfl hl.1 rfl (Nat.le_of_ble_eq_true rfl) dX3_init_62 ⟨(Nat.le_of_ble_eq_true rfl), (Nat.le_of_ble_eq_true rfl)⟩) hD hS hA (fun t_der_1 H locs hq hP hD hS => ?_)
  have hP : va_P (dC, dI) vwCl (wX3 cs (fun k => ([h0, q1, q2, q3, q5, q7] : List Nat).getD k 0) r4 r6 t_fac_1 t_der_1 (fun _ _ => 0) (fun _ _ => 0) (fun _ => 0)) H := hP
  have hD : va_D A (wX3 cs (fun k => ([h0, q1, q2, q3, q5, q7] : List Nat).getD k 0) r4 r6 t_fac_1 t_der_1 (fun _ _ => 0) (fun _ _ => 0) (fun _ => 0)) := hD
  refine lv_aload_n hx hb dX3_init_65 rfl (lv_at hl 0 rfl) ?_
  refine swv (runV ⟨hx, hb, hml, hown, hts⟩ wf_X3_fillRecords ml_X3_39 (c3_fillRecords l dC dI cs (fun k => ([h0, q1, q2, q3, q5, q7] : List Nat).getD k 0) r4 r6 _ t_fac_1 t_der_1 (fun _ _ => 0) (fun _ _ => 0) (fun _ => 0) hq) ⟨⟨rfl, rfl⟩, by decide, by decide⟩ (preW hP hK hN hD) hK hP rfl 0 rfl rfl hl.1 rfl (Nat.le_of_ble_eq_true rfl) dX3_init_66 ⟨(Nat.le_of_ble_eq_true rfl), (Nat.le_of_ble_eq_true rfl)⟩) hD hS hA (fun t_rec_1 H locs hq hP hD hS => ?_)
  have hP : va_P (dC, dI) vwCl (wX3 cs (fun k => ([h0, q1, q2, q3, q5, q7] : List Nat).getD k 0) r4 r6 t_fac_1 t_der_1 t_rec_1 (fun _ _ => 0) (fun _ => 0)) H := hP
  have hD : va_D A (wX3 cs (fun k => ([h0, q1, q2, q3, q5, q7] : List Nat).getD k 0) r4 r6 t_fac_1 t_der_1 t_rec_1 (fun _ _ => 0) (fun _ => 0)) := hD
  refine lv_aload_n hx hb dX3_init_69 rfl (lv_at hl 0 rfl) ?_
  refine swv (runV ⟨hx, hb, hml, hown, hts⟩ wf_X3_fillRoundsUpTo ml_X3_42 (c3_fillRoundsUpTo l dC dI cs (fun k => ([h0, q1, q2, q3, q5, q7] : List Nat).getD k 0) r4 r6 _ t_fac_1 t_der_1 t_rec_1 (fun _ _ => 0) (fun _ => 0) hq) ⟨⟨rfl, rfl⟩, by decide, by decide⟩ (preW hP hK hN hD) hK hP rfl 0 rfl rfl hl.1 rfl (Nat.le_of_ble_eq_true rfl) dX3_init_70 ⟨(Nat.le_of_ble_eq_true rfl), (Nat.le_of_ble_eq_true rfl)⟩) hD hS hA (fun t_rut_1 H locs hq hP hD hS => ?_)
  have hP : va_P (dC, dI) vwCl (wX3 cs (fun k => ([h0, q1, q2, q3, q5, q7] : List Nat).getD k 0) r4 r6 t_fac_1 t_der_1 t_rec_1 t_rut_1 (fun _ => 0)) H := hP
  have hD : va_D A (wX3 cs (fun k => ([h0, q1, q2, q3, q5, q7] : List Nat).getD k 0) r4 r6 t_fac_1 t_der_1 t_rec_1 t_rut_1 (fun _ => 0)) := hD
  refine lv_aload_n hx hb dX3_init_73 rfl (lv_at hl 0 rfl) ?_
  refine swv (runV ⟨hx, hb, hml, hown, hts⟩ wf_X3_fillRises ml_X3_45 (c3_fillRises l dC dI cs (fun k => ([h0, q1, q2, q3, q5, q7] : List Nat).getD k 0) r4 r6 _ t_fac_1 t_der_1 t_rec_1 t_rut_1 (fun _ => 0) hq) ⟨⟨rfl, rfl⟩, by decide, by decide⟩ (preW hP hK hN hD) hK hP rfl 0 rfl rfl hl.1 rfl (Nat.le_of_ble_eq_true rfl) dX3_init_74 ⟨(Nat.le_of_ble_eq_true rfl), (Nat.le_of_ble_eq_true rfl)⟩) hD hS hA (fun t_ris_1 H locs hq hP hD hS => ?_)
  have hP : va_P (dC, dI) vwCl (wX3 cs (fun k => ([h0, q1, q2, q3, q5, q7] : List Nat).getD k 0) r4 r6 t_fac_1 t_der_1 t_rec_1 t_rut_1 t_ris_1) H := hP
  have hD : va_D A (wX3 cs (fun k => ([h0, q1, q2, q3, q5, q7] : List Nat).getD k 0) r4 r6 t_fac_1 t_der_1 t_rec_1 t_rut_1 t_ris_1) := hD
  exact W.vret hx hb hr (fun t ht hW => ⟨⟨((fun k => ([h0, q1, q2, q3, q5, q7] : List Nat).getD k 0), r4, r6, t_fac_1, t_der_1, t_rec_1, t_rut_1, t_ris_1), rfl, ⟨rfl, hq⟩, Bw_mk (by rw [ht]; exact hP) (va_K.moved hW.alike hK) hD⟩, hS.F ht⟩) hS.2.2 dX3_init_77
