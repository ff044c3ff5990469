theorem arrV_ext {c : ClassId} {N : Nat} {f g : Nat → Value} (h : ∀ j, j < N → f j = g j) : arrV c N f = arrV c N g := by
  unfold arrV
  congr 1
  apply Array.ext
  · simp
  · intro i h1 h2
    simp only [Array.getElem_ofFn]
    exact h i (by simpa using h1)
theorem va_P_perm {D : va_G} {cl : List vw_C} {ws ws' : va_W} {H : Heap} (hp : ws.Perm ws') (h : va_P D cl ws H) : va_P D cl ws' H := va_P_iff.mpr (fun q hq => va_P_iff.mp h q (hp.mem_iff.mpr hq))
theorem va_D_perm {A : Nat → Prop} {ws ws' : va_W} (hp : ws.Perm ws') (h : va_D A ws) : va_D A ws' := by
  rw [va_D_iff] at h ⊢
  exact ⟨(hp.map Prod.fst).nodup_iff.mp h.1, fun q hq => h.2 q (hp.mem_iff.mpr hq)⟩
section HB4
variable {p : Program} {l : Launch} {e : Env} {R : Room} {s : State} {m : MethodId} {args : Array Value} {below : List Frame} {meth : Method} {c : Code} {H : Heap} {locs : List Loc} {cells slots : Nat} {Q : State → Prop}
variable {cc : ByteArray} {pc : Nat} {ls : Array Slot} {rest : List Value} {D : va_G} {A : Nat → Prop} {ws : va_W} {H0 : Heap} {tys : List (ClassId × FieldType)}
theorem nwa (hexec : p.tables.exec = Jvm.exec) (hb : c.code = cc) {atype : ArrayType} (harr : (Cond.arrayClass (newarray.typeOf atype)).before args s = true) {ty : FieldType} (hty : newarray.typeOf atype = ty) (hra : ∀ (U : State) (cA : ClassId), va_RA U cA ty → U.vm.findClass ("[" ++ ty.toString) = some cA) (hK : va_K D vwCl tys s) (t0 : Nat) {cT : ClassId} (ht : tys[t0]? = some (cT, ty)) (hP : va_P D vwCl ws H) (hD : va_D A ws) (hS : va_S A H0 H locs) (hA : ∀ q, H0.size ≤ q → A q)
    {n : Int32} {N' : Nat} {a0 : vp_A} (ha : ∀ cA : ClassId, vp_cell cA a0 = arrV cA N' (fun _ => defaultValue ty)) (hn : ¬ n < 0) (hN : n.toNatClampNeg = N') (hbytes : N' * componentBytes ty ≤ 536870912) (hcells : cells + 1 ≤ R.cells) (hslots : slots + N' ≤ R.slots) (hdg : decode cc pc = .ok (.newarray atype, 2))
    (kk : ∀ (q : Nat) (H1 : Heap), va_P D vwCl (ws ++ [(q, .inl (cT, a0))]) H1 → va_D A (ws ++ [(q, .inl (cT, a0))]) → va_S A H0 H1 locs → W p l e R s m args below meth c H1 locs (cells + 1) (slots + N') Q (F0 m (pc + 2) ls (.ref q :: rest))) : W p l e R s m args below meth c H locs cells slots Q (F0 m pc ls (.int n :: rest)) := by
  refine va_newa hexec hb harr hty hK hP hD hS hA ha hn hN hbytes hcells hslots hdg (fun q cA H1 hK' hP' hD' hS' => ?_)
  have e : cA = cT := by
    have h1 := hra _ _ (hK'.2 tys.length (cA, ty) (by rw [List.getElem?_append_right (Nat.le_refl _)]; simp)).2
    have h2 := hra _ _ (hK.2 t0 _ ht).2
    exact Option.some.inj (h1.symm.trans h2)
  subst e
  exact kk q H1 hP' hD' hS'
theorem nwq (hexec : p.tables.exec = Jvm.exec) (hb : c.code = cc) {own C : String} {index : Nat} (hown : s.vm.findClass own = some m.cls) (hclink : (Cond.classLink own index C).before args s = true) (hover : va_AO C s) (hK : va_K D vwCl tys s) (t0 : Nat) {cT : ClassId} (ht : tys[t0]? = some (cT, .object C)) (hP : va_P D vwCl ws H) (hD : va_D A ws) (hS : va_S A H0 H locs) (hA : ∀ q, H0.size ≤ q → A q)
    {n : Int32} {N' : Nat} (hn : ¬ n < 0) (hN : n.toNatClampNeg = N') (hbytes : N' * 4 ≤ 536870912) (hcells : cells + 1 ≤ R.cells) (hslots : slots + N' ≤ R.slots) (hdg : decode cc pc = .ok (.anewarray index, 3))
    (kk : ∀ (q : Nat) (H1 : Heap), va_P D vwCl (ws ++ [(q, .inl (cT, N', .inr (.inr (.inr (.inr (fun _ => none))))))]) H1 → va_D A (ws ++ [(q, .inl (cT, N', .inr (.inr (.inr (.inr (fun _ => none))))))]) → va_S A H0 H1 locs → W p l e R s m args below meth c H1 locs (cells + 1) (slots + N') Q (F0 m (pc + 3) ls (.ref q :: rest))) : W p l e R s m args below meth c H locs cells slots Q (F0 m pc ls (.int n :: rest)) := by
  refine va_newq hexec hb hown hclink hover hK hP hD hS hA hn hN hbytes hcells hslots hdg (fun q cA H1 hK' hP' hD' hS' => ?_)
  have e : cA = cT := by
    obtain ⟨-, -, -, -, -, h1⟩ := (hK'.2 tys.length (cA, .object C) (by rw [List.getElem?_append_right (Nat.le_refl _)]; simp)).2
    obtain ⟨-, -, -, -, -, h2⟩ := (hK.2 t0 _ ht).2
    exact Option.some.inj (h1.symm.trans h2)
  subst e
  exact kk q H1 hP' hD' hS'
theorem mna2 (hexec : p.tables.exec = Jvm.exec) (hb : c.code = cc) {own : String} {index : Nat} {ty : FieldType} (hown : s.vm.findClass own = some m.cls) (hclink : (Cond.classLink own index ("[" ++ (FieldType.array ty).toString)).before args s = true) (hover : va_AOA ty s) (harr : (Cond.arrayClass ty).before args s = true)
    (hra : ∀ (U : State) (cA : ClassId), va_RA U cA ty → U.vm.findClass ("[" ++ ty.toString) = some cA) (hstr : (FieldType.array ty).toString = "[" ++ ty.toString) (hK : va_K D vwCl tys s) (t0 t1 : Nat) {cO cy : ClassId} (ht0 : tys[t0]? = some (cO, .array ty)) (ht1 : tys[t1]? = some (cy, ty)) (hP : va_P D vwCl ws H) (hD : va_D A ws) (hS : va_S A H0 H locs) (hA : ∀ q, H0.size ≤ q → A q) {n k : Int32} {N' K' : Nat} {z : vp_A} (hn : ¬ n < 0) (hk : ¬ k < 0) (hN : n.toNatClampNeg = N') (hM : k.toNatClampNeg = K')
    (hb1 : N' * 4 ≤ 536870912) (hb2 : K' * componentBytes ty ≤ 536870912) (hb3 : K' ≤ 536870912) (hdf : fits ty (defaultValue ty) = true) (hdd : (defaultValue ty).isDefault = true) (hcells : cells + (1 + N') ≤ R.cells) (hslots : slots + (N' + N' * K') ≤ R.slots) (hz : ∀ c : ClassId, Jvm.Free.Multi.innerC c K' (defaultValue ty) = vp_cell c z) (hdg : decode cc pc = .ok (.multianewarray index 2, 4))
    (kk : ∀ (q : Nat) (r : Nat → Nat) (H1 : Heap), va_P D vwCl (ws ++ ((q, .inl (cO, N', .inr (.inr (.inr (.inr (fun i => some (r i))))))) :: (List.range N').map (fun i => ((r i, .inl (cy, z)) : Nat × va_E)))) H1 → va_D A (ws ++ ((q, .inl (cO, N', .inr (.inr (.inr (.inr (fun i => some (r i))))))) :: (List.range N').map (fun i => ((r i, .inl (cy, z)) : Nat × va_E)))) → va_S A H0 H1 locs →
      W p l e R s m args below meth c H1 locs (cells + 1 + N') (slots + N' + N' * K') Q (F0 m (pc + 4) ls (.ref q :: rest))) : W p l e R s m args below meth c H locs cells slots Q (F0 m pc ls (.int k :: .int n :: rest)) := by
  have hcy : s.vm.findClass (FieldType.array ty).toString = some cy := by rw [hstr]; exact hra _ _ (hK.2 t1 _ ht1).2
  have e0 : ws ++ va_pl [] (fun _ => .inl (cy, z)) = ws := List.append_nil ws
  refine va_mna (X := ws) (L := []) (f := fun _ => .inl (cy, z)) hexec hb hown hclink hover harr hcy hK (by rw [e0]; exact hP) (by rw [e0]; exact hD) hS hA hn hk hN hM hb1 hb2 hb3 hdf hdd hcells hslots hz hdg (fun q r cA H1 hi _ hK' hP' hD' hS' => ?_)
  have e : cA = cO := by
    have h1 := (hK'.2 tys.length (cA, .array ty) (by rw [List.getElem?_append_right (Nat.le_refl _)]; simp)).2
    have h2 := (hK.2 t0 _ ht0).2
    exact Option.some.inj (Eq.trans (Eq.symm h1) h2)
  subst e
  have ef : va_pl ([] ++ (List.range N').map r) (vr_up (fun _ => .inl (cy, z)) ((List.range N').map r) (.inl (cy, z))) = (List.range N').map (fun i => ((r i, .inl (cy, z)) : Nat × va_E)) := by
    unfold va_pl
    rw [List.nil_append, List.map_map]
    refine List.map_congr_left (fun i hi => ?_)
    show (r i, vr_up _ _ _ (r i)) = _
    rw [vr_up_in (List.mem_map.mpr ⟨i, hi, rfl⟩)]
  rw [ef, List.append_assoc] at hP' hD'
  have ec : vp_cell cA (N', .inr (.inr (.inr (.inr (fun i => if i < N' then some (r i) else none))))) = vp_cell cA (N', .inr (.inr (.inr (.inr (fun i => some (r i)))))) := by
    rw [vp_cell_q, vp_cell_q]
    exact arrV_ext (fun j hj => by rw [if_pos hj])
  refine kk q r H1 ?_ ?_ hS'
  · refine va_P_app (va_P_l hP') (va_P_iff.mpr (fun x hx => ?_))
    rcases List.mem_cons.mp hx with rfl | hx
    · have h9 := va_P_iff.mp (va_P_r hP') _ (List.mem_cons_self)
      show H1[q]? = some _
      rw [← ec]
      exact h9
    · exact va_P_iff.mp (va_P_r hP') x (List.mem_cons_of_mem _ hx)
  · rw [va_D_iff] at hD' ⊢
    refine ⟨by simpa using hD'.1, fun x hx => ?_⟩
    rcases List.mem_append.mp hx with hx | hx
    · exact hD'.2 x (List.mem_append_left _ hx)
    · rcases List.mem_cons.mp hx with rfl | hx
      · exact hD'.2 (q, .inl (cA, N', .inr (.inr (.inr (.inr (fun i => if i < N' then some (r i) else none)))))) (List.mem_append_right _ List.mem_cons_self)
      · exact hD'.2 x (List.mem_append_right _ (List.mem_cons_of_mem _ hx))
end HB4
theorem va_AOA.moved {ty : FieldType} {U U' : State} (hal : U.vm.Alike U'.vm) (h : va_AOA ty U) : va_AOA ty U' := by
  unfold va_AOA at h ⊢
  simp only [Cond.before, Cond.holds, Cond.value] at h ⊢
  rw [hal.findClass]
  cases hf : U.vm.findClass (FieldType.array ty).toString with
  | none => rw [hf] at h; simp at h
  | some comp =>
    rw [hf] at h
    simp only [Option.bind_some] at h ⊢
    rw [hal.findIdx_congr _ (fun _ _ _ _ => rfl)]
    generalize hF : (U.vm.classes.findIdx? fun (x : Class) => match x.kind with | .array component _ => component == comp | _ => false) = fi at h ⊢
    cases fi with
    | none => simp at h
    | some c =>
      simp only [Option.bind_some] at h ⊢
      cases hk : U.vm.classes[c]? with
      | none => rw [hk] at h; simp at h
      | some k =>
        obtain ⟨k', hk', ek⟩ := hal.2.2 _ _ hk
        rw [hk] at h
        rw [hk', hal.findClass]
        have ekind : k'.kind = k.kind := by rw [ek]
        simp only [Option.map_some] at h ⊢
        rw [ekind]
        exact h
def NV (U : State) : Prop := va_AOA .int U ∧ va_AOA .long U
theorem NV_al {u U : State} (h : u.vm.Alike U.vm) (hN : NV u) : NV U := ⟨va_AOA.moved h hN.1, va_AOA.moved h hN.2⟩
def Pv (D : va_G) (K : List (ClassId × FieldType)) (ws : va_W) (sz : Nat) (U : State) : Prop := Pw D K ws sz U ∧ NV U
theorem preV {s : State} {H : Heap} {av : List Value} {D : va_G} {K : List (ClassId × FieldType)} {ws : va_W} {A : Nat → Prop} (hV : NV s) (hP : va_P D vwCl ws H) (hK : va_K D vwCl K s) (hN : NW s) (hD : va_D A ws) : Pg s H av (va_Pc av (Pv D K ws H.size)) :=
  ⟨fun a U g mk q => ⟨((preW hP hK hN hD).1 a U g mk ⟨q.1, q.2.1⟩).1, ((preW (ws := ws) (av := av) (K := K) (D := D) hP hK hN hD).1 a U g mk ⟨q.1, q.2.1⟩).2, NV_al (u := U) (U := U.calling g mk a) (Vm.Alike.refl U.vm) q.2.2⟩,
   fun U hU hW => ⟨((preW (av := av) hP hK hN hD).2 U hU hW).1, ((preW (av := av) hP hK hN hD).2 U hU hW).2, NV_al hW.alike hV⟩⟩
