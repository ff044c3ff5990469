theorem va_P_iff {D : va_G} {cl : List vw_C} {ws : va_W} {H : Heap} : va_P D cl ws H ↔ ∀ q ∈ ws, va_at D cl q H := by
  constructor
  · intro h q hq
    obtain ⟨k, hk⟩ := List.getElem?_of_mem hq
    exact h k q hk
  · intro h k q hk
    exact h q (List.mem_of_getElem? hk)
theorem va_D_iff {A : Nat → Prop} {ws : va_W} : va_D A ws ↔ (ws.map Prod.fst).Nodup ∧ ∀ q ∈ ws, A q.1 := by
  constructor
  · intro h
    refine ⟨?_, fun q hq => ?_⟩
    · refine List.pairwise_iff_getElem.mpr (fun i j hi hj hij e => ?_)
      rw [List.length_map] at hi hj
      rw [List.getElem_map, List.getElem_map] at e
      have := h.1 i j ws[i] ws[j] (List.getElem?_eq_getElem hi) (List.getElem?_eq_getElem hj) e
      omega
    · obtain ⟨k, hk⟩ := List.getElem?_of_mem hq
      exact h.2 k q hk
  · intro h
    refine ⟨fun i j p q hi hj e => ?_, fun k q hk => h.2 q (List.mem_of_getElem? hk)⟩
    obtain ⟨hi1, hi2⟩ := List.getElem?_eq_some_iff.mp hi
    obtain ⟨hj1, hj2⟩ := List.getElem?_eq_some_iff.mp hj
    have hp := List.pairwise_iff_getElem.mp h.1
    rcases Nat.lt_trichotomy i j with hij | hij | hij
    · exact absurd (by rw [List.getElem_map, List.getElem_map, hi2, hj2]; exact e) (hp i j (by rw [List.length_map]; exact hi1) (by rw [List.length_map]; exact hj1) hij)
    · exact hij
    · exact absurd (by rw [List.getElem_map, List.getElem_map, hi2, hj2]; exact e.symm) (hp j i (by rw [List.length_map]; exact hj1) (by rw [List.length_map]; exact hi1) hij)
theorem va_P_app {D : va_G} {cl : List vw_C} {a b : va_W} {H : Heap} (h1 : va_P D cl a H) (h2 : va_P D cl b H) : va_P D cl (a ++ b) H :=
  va_P_iff.mpr (fun q hq => (List.mem_append.mp hq).elim (va_P_iff.mp h1 q) (va_P_iff.mp h2 q))
theorem va_P_l {D : va_G} {cl : List vw_C} {a b : va_W} {H : Heap} (h : va_P D cl (a ++ b) H) : va_P D cl a H := va_P_iff.mpr (fun q hq => va_P_iff.mp h q (List.mem_append_left _ hq))
theorem va_P_r {D : va_G} {cl : List vw_C} {a b : va_W} {H : Heap} (h : va_P D cl (a ++ b) H) : va_P D cl b H := va_P_iff.mpr (fun q hq => va_P_iff.mp h q (List.mem_append_right _ hq))
theorem va_D_app {A : Nat → Prop} {a b : va_W} : va_D A (a ++ b) ↔ va_D A a ∧ va_D A b ∧ ∀ x ∈ a, ∀ y ∈ b, x.1 ≠ y.1 := by
  simp only [va_D_iff, List.map_append, List.nodup_append, List.mem_append]
  constructor
  · rintro ⟨⟨h1, h2, h3⟩, h4⟩
    exact ⟨⟨h1, fun q hq => h4 q (Or.inl hq)⟩, ⟨h2, fun q hq => h4 q (Or.inr hq)⟩, fun x hx y hy => h3 x.1 (List.mem_map.mpr ⟨x, hx, rfl⟩) y.1 (List.mem_map.mpr ⟨y, hy, rfl⟩)⟩
  · rintro ⟨⟨h1, h2⟩, ⟨h3, h4⟩, h5⟩
    refine ⟨⟨h1, h3, fun x hx y hy => ?_⟩, fun q hq => hq.elim (h2 q) (h4 q)⟩
    obtain ⟨x', hx', rfl⟩ := List.mem_map.mp hx
    obtain ⟨y', hy', rfl⟩ := List.mem_map.mp hy
    exact h5 x' hx' y' hy'
theorem va_D_l {A : Nat → Prop} {a b : va_W} (h : va_D A (a ++ b)) : va_D A a := (va_D_app.mp h).1
theorem va_D_r {A : Nat → Prop} {a b : va_W} (h : va_D A (a ++ b)) : va_D A b := (va_D_app.mp h).2.1
theorem na_of {D : va_G} {cl : List vw_C} {ws wo : va_W} {H : Heap} {B : Nat → Prop} (hP : va_P D cl (ws ++ wo) H) (hD : va_D B (ws ++ wo)) : ∀ q ∈ wo, ¬ va_A ws H.size q.1 := by
  intro q hq h
  rcases h with ⟨k, e, hk⟩ | h
  · exact (va_D_app.mp hD).2.2 _ (List.mem_of_getElem? hk) q hq rfl
  · exact absurd (va_P_iff.mp (va_P_r hP) q hq).lt (Nat.not_lt.mpr h)
theorem ro_at {D : va_G} {cl : List vw_C} {wo : va_W} {A : Nat → Prop} {H0 H : Heap} {locs : List Loc} (hO : va_P D cl wo H0) (hNA : ∀ q ∈ wo, ¬ A q.1) (hS : va_S A H0 H locs) : va_P D cl wo H :=
  fun k q hk => (hO k q hk).kept (hS.2.1 q.1 ((hO k q hk).lt) (hNA q (List.mem_of_getElem? hk)))
theorem na_sub {wo wo' : va_W} {A : Nat → Prop} (hNA : ∀ q ∈ wo, ¬ A q.1) (is : List Nat) (hs : is.filterMap (fun i => wo[i]?) = wo') : ∀ q ∈ wo', ¬ A q.1 := fun q hq => by
  subst hs
  obtain ⟨i, -, hi⟩ := List.mem_filterMap.mp hq
  exact hNA q (List.mem_of_getElem? hi)
theorem D_cross {A B : Nat → Prop} {a b : va_W} (h1 : va_D A a) (h2 : va_D B b) (hn : ∀ q ∈ b, ¬ A q.1) : va_D (fun _ => True) (a ++ b) :=
  va_D_app.mpr ⟨h1.weaken (fun _ _ _ _ => trivial), h2.weaken (fun _ _ _ _ => trivial), fun x hx y hy e => hn y hy (e ▸ (va_D_iff.mp h1).2 x hx)⟩
abbrev Pw2 (D : va_G) (K : List (ClassId × FieldType)) (ws wo : va_W) (sz : Nat) : State → Prop := Pw D K (ws ++ wo) sz
theorem preW3 {s : State} {H : Heap} {av : List Value} {D : va_G} {K : List (ClassId × FieldType)} {ws wo : va_W} {A : Nat → Prop} (hP : va_P D vwCl ws H) (hO : va_P D vwCl wo H) (hK : va_K D vwCl K s) (hN : NW s) (hD : va_D A (ws ++ wo)) : Pg s H av (va_Pc av (Pw2 D K ws wo H.size)) := preW (va_P_app hP hO) hK hN hD
theorem preW2 {s : State} {H : Heap} {av : List Value} {D : va_G} {K : List (ClassId × FieldType)} {ws wo : va_W} {A B : Nat → Prop} (hP : va_P D vwCl ws H) (hO : va_P D vwCl wo H) (hK : va_K D vwCl K s) (hN : NW s) (hD : va_D A ws) (hDO : va_D B wo) (hNA : ∀ q ∈ wo, ¬ A q.1) : Pg s H av (va_Pc av (Pw2 D K ws wo H.size)) := preW (va_P_app hP hO) hK hN (D_cross hD hDO hNA)
/-- the frame: the callee's cells in the midst of the caller's -/
theorem fr_mid {D : va_G} {A0 : Nat → Prop} {X Z wc w1 : va_W} {H H1 : Heap} (hP : va_P D vwCl (X ++ (wc ++ Z)) H) (hD : va_D A0 (X ++ (wc ++ Z))) (hk : ∀ q : Nat, q < H.size → ¬ va_A wc H.size q → H1[q]? = H[q]?) (hF : ∀ q, va_A wc H.size q → A0 q) (hP1 : va_P D vwCl w1 H1) (hD1 : va_D (va_A wc H.size) w1) : va_P D vwCl (X ++ (w1 ++ Z)) H1 ∧ va_D A0 (X ++ (w1 ++ Z)) := by
  obtain ⟨dX, dR, dXR⟩ := va_D_app.mp hD
  obtain ⟨dC, dZ, dCZ⟩ := va_D_app.mp dR
  have nX : ∀ q ∈ X, ¬ va_A wc H.size q.1 := fun q hq h => by
    rcases h with ⟨k, e, hk⟩ | h
    · exact dXR q hq _ (List.mem_append_left _ (List.mem_of_getElem? hk)) rfl
    · exact absurd (va_P_iff.mp (va_P_l hP) q hq).lt (Nat.not_lt.mpr h)
  have nZ : ∀ q ∈ Z, ¬ va_A wc H.size q.1 := fun q hq h => by
    rcases h with ⟨k, e, hk⟩ | h
    · exact dCZ _ (List.mem_of_getElem? hk) q hq rfl
    · exact absurd (va_P_iff.mp (va_P_r (va_P_r hP)) q hq).lt (Nat.not_lt.mpr h)
  have kX : va_P D vwCl X H1 := va_P_iff.mpr (fun q hq => (va_P_iff.mp (va_P_l hP) q hq).kept (hk q.1 (va_P_iff.mp (va_P_l hP) q hq).lt (nX q hq)))
  have kZ : va_P D vwCl Z H1 := va_P_iff.mpr (fun q hq => (va_P_iff.mp (va_P_r (va_P_r hP)) q hq).kept (hk q.1 (va_P_iff.mp (va_P_r (va_P_r hP)) q hq).lt (nZ q hq)))
  have in1 : ∀ q ∈ w1, va_A wc H.size q.1 := (va_D_iff.mp hD1).2
  refine ⟨va_P_app kX (va_P_app hP1 kZ), va_D_app.mpr ⟨dX, va_D_app.mpr ⟨hD1.weaken (fun _ _ _ h => hF _ h), dZ, fun x hx y hy e => nZ y hy (e ▸ in1 x hx)⟩, fun x hx y hy e => ?_⟩⟩
  rcases List.mem_append.mp hy with hy | hy
  · exact nX x hx (e ▸ in1 y hy)
  · exact dXR x hx y (List.mem_append_right _ hy) e
section HB3
variable {p : Program} {l : Launch} {e : Env} {R : Room} {s : State} {m : MethodId} {args : Array Value} {below : List Frame} {meth : Method} {c : Code} {H : Heap} {locs : List Loc} {cells slots : Nat} {Q : State → Prop}
variable {cc cc' : ByteArray} {pc nL nL' n idx : Nat} {ls : Array Slot} {rest st0 As : List Value} {D : va_G} {A : Nat → Prop} {b : Nat} {K : List (ClassId × FieldType)} {ws wc : va_W} {H0 : Heap} {mc ms : Nat}
theorem jwi {S : Type} {post : Int32 → S → Prop} {w1 : S → va_W} {a : Array Value} (hr : va_Run p l e R s m args below meth c H locs cells slots mc ms (F0 m pc ls st0) rest (va_Qi post (Bw D K (va_A wc H.size) w1) (va_A wc H.size) a) (va_A wc H.size)) (hP : va_P D vwCl ws H) (hD : va_D A ws) (hS : va_S A H0 H locs) (hA : ∀ q, H0.size ≤ q → A q) (i j : Nat) (hws : ws = ws.take i ++ (wc ++ ws.drop j))
    (kk : ∀ (r : Int32) (u : S) (H1 : Heap) (locs1 : List Loc), post r u → va_P D vwCl (ws.take i ++ (w1 u ++ ws.drop j)) H1 → va_D A (ws.take i ++ (w1 u ++ ws.drop j)) → va_S A H0 H1 locs1 → W p l e R s m args below meth c H1 locs1 (cells + mc) (slots + ms) Q (F0 m (pc + 3) ls (.int r :: rest))) : W p l e R s m args below meth c H locs cells slots Q (F0 m pc ls st0) := by
  generalize ws.take i = X at hws kk
  generalize ws.drop j = Z at hws kk
  subst hws
  have hF : ∀ q, va_A wc H.size q → A q := fun q h => h.elim (fun ⟨k, e, hk⟩ => (va_D_l (va_D_r hD)).2 k _ hk) (fun h => hA q (Nat.le_trans hS.1 h))
  refine va_calli hr hS (fun q _ h => hF q h) hF (fun r u t H1 locs1 ht hvm hw hB hz1 hk1 hS1 => ?_)
  obtain ⟨b1, b2, b3⟩ := hB
  rw [ht] at b1
  obtain ⟨f1, f2⟩ := fr_mid hP hD hk1 hF b1 b3
  exact kk r u H1 locs1 hw f1 f2 hS1
theorem jwl {S : Type} {post : Int64 → S → Prop} {w1 : S → va_W} {a : Array Value} (hr : va_Run p l e R s m args below meth c H locs cells slots mc ms (F0 m pc ls st0) rest (va_Ql post (Bw D K (va_A wc H.size) w1) (va_A wc H.size) a) (va_A wc H.size)) (hP : va_P D vwCl ws H) (hD : va_D A ws) (hS : va_S A H0 H locs) (hA : ∀ q, H0.size ≤ q → A q) (i j : Nat) (hws : ws = ws.take i ++ (wc ++ ws.drop j))
    (kk : ∀ (r : Int64) (u : S) (H1 : Heap) (locs1 : List Loc), post r u → va_P D vwCl (ws.take i ++ (w1 u ++ ws.drop j)) H1 → va_D A (ws.take i ++ (w1 u ++ ws.drop j)) → va_S A H0 H1 locs1 → W p l e R s m args below meth c H1 locs1 (cells + mc) (slots + ms) Q (F0 m (pc + 3) ls (.long r :: rest))) : W p l e R s m args below meth c H locs cells slots Q (F0 m pc ls st0) := by
  generalize ws.take i = X at hws kk
  generalize ws.drop j = Z at hws kk
  subst hws
  have hF : ∀ q, va_A wc H.size q → A q := fun q h => h.elim (fun ⟨k, e, hk⟩ => (va_D_l (va_D_r hD)).2 k _ hk) (fun h => hA q (Nat.le_trans hS.1 h))
  refine va_calll hr hS (fun q _ h => hF q h) hF (fun r u t H1 locs1 ht hvm hw hB hz1 hk1 hS1 => ?_)
  obtain ⟨b1, b2, b3⟩ := hB
  rw [ht] at b1
  obtain ⟨f1, f2⟩ := fr_mid hP hD hk1 hF b1 b3
  exact kk r u H1 locs1 hw f1 f2 hS1
theorem jwv {S : Type} {post : S → Prop} {w1 : S → va_W} {a : Array Value} (hr : va_Run p l e R s m args below meth c H locs cells slots mc ms (F0 m pc ls st0) rest (va_Qv post (Bw D K (va_A wc H.size) w1) (va_A wc H.size) a) (va_A wc H.size)) (hP : va_P D vwCl ws H) (hD : va_D A ws) (hS : va_S A H0 H locs) (hA : ∀ q, H0.size ≤ q → A q) (i j : Nat) (hws : ws = ws.take i ++ (wc ++ ws.drop j))
    (kk : ∀ (u : S) (H1 : Heap) (locs1 : List Loc), post u → va_P D vwCl (ws.take i ++ (w1 u ++ ws.drop j)) H1 → va_D A (ws.take i ++ (w1 u ++ ws.drop j)) → va_S A H0 H1 locs1 → W p l e R s m args below meth c H1 locs1 (cells + mc) (slots + ms) Q (F0 m (pc + 3) ls rest)) : W p l e R s m args below meth c H locs cells slots Q (F0 m pc ls st0) := by
  generalize ws.take i = X at hws kk
  generalize ws.drop j = Z at hws kk
  subst hws
  have hF : ∀ q, va_A wc H.size q → A q := fun q h => h.elim (fun ⟨k, e, hk⟩ => (va_D_l (va_D_r hD)).2 k _ hk) (fun h => hA q (Nat.le_trans hS.1 h))
  refine va_callv hr hS (fun q _ h => hF q h) hF (fun u t H1 locs1 ht hvm hw hB hz1 hk1 hS1 => ?_)
  obtain ⟨b1, b2, b3⟩ := hB
  rw [ht] at b1
  obtain ⟨f1, f2⟩ := fr_mid hP hD hk1 hF b1 b3
  exact kk u H1 locs1 hw f1 f2 hS1
theorem va_alda {tys : List (ClassId × FieldType)} (hexec : p.tables.exec = Jvm.exec) (hb : c.code = cc) (hK : va_K D vwCl tys s) (hP : va_P D vwCl ws H) (q0 t0 : Nat) {aa : Nat} {cA : ClassId} {ty : FieldType} {n : Nat} {f : Nat → Option Nat} (ha : ws[q0]? = some (aa, .inl (cA, n, .inr (.inr (.inr (.inr f)))))) (ht : tys[t0]? = some (cA, .array ty)) {i : Int32} (hin : vp_in i n) (hdg : decode cc pc = .ok (.aaload, 1))
    (kk : W p l e R s m args below meth c H locs cells slots Q (F0 m (pc + 1) ls (va_rf (f i.toNatClampNeg) :: rest))) : W p l e R s m args below meth c H locs cells slots Q (F0 m pc ls (.int i :: .ref aa :: rest)) := by
  have hlt : i.toNatClampNeg < n := Nat.not_le.mp fun q => hin (Or.inr q)
  exact W.aald (v := va_rf (f i.toNatClampNeg)) (ty := .array ty) hexec hb (hP q0 _ ha) ((hK.2 t0 _ ht).1 n (fun j => va_rf (f j))) rfl (fun q => by cases q) (by show ¬ (i < 0 ∨ (arrV _ _ _).slots.size ≤ _); rw [arrV_size]; exact hin) (by show (arrV _ _ _).slots[_]? = _; rw [arrV_read _ _ hlt]) rfl rfl hdg kk
end HB3
theorem fam_get {pre post : va_W} {n j : Nat} {g : Nat → Nat × va_E} (h : j < n) : (pre ++ ((List.range n).map g ++ post))[pre.length + j]? = some (g j) := by
  rw [List.getElem?_append_right (by omega), show pre.length + j - pre.length = j by omega, List.getElem?_append_left (by simp; omega)]
  simp [h]
theorem fam_set {pre post : va_W} {n j : Nat} {g g' : Nat → Nat × va_E} {x : Nat × va_E} (h : j < n) (h1 : g' j = x) (h2 : ∀ i, i ≠ j → g' i = g i) : (pre ++ ((List.range n).map g ++ post)).set (pre.length + j) x = pre ++ ((List.range n).map g' ++ post) := by
  rw [List.set_append_right _ _ (by omega), show pre.length + j - pre.length = j by omega, List.set_append_left _ _ (by simp; omega)]
  congr 2
  refine List.ext_getElem? (fun i => ?_)
  rw [List.getElem?_set]
  by_cases hij : j = i
  · subst hij
    simp [h, h1]
  · simp only [if_neg hij, List.getElem?_map]
    by_cases hi : i < n
    · simp [List.getElem?_range hi, h2 i (fun e => hij e.symm)]
    · simp [List.getElem?_eq_none (l := List.range n) (i := i) (by simp; omega)]
theorem lk2 {a b oa ob d : Int} {x : Int32} (h1 : ¬ a = x.toInt) (h2 : ¬ b = x.toInt) : Op.lookupswitch.offset [(a, oa), (b, ob)] d x.toInt = d := by
  rw [Op.lookupswitch.offset_cons, if_neg h1, Op.lookupswitch.offset_cons, if_neg h2, Op.lookupswitch.offset_nil]
