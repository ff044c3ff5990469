section HB5
variable {p : Program} {l : Launch} {e : Env} {R : Room} {s : State} {m : MethodId} {args : Array Value} {below : List Frame} {meth : Method} {c : Code} {H : Heap} {locs : List Loc} {cells slots : Nat} {Q : State → Prop}
variable {pc : Nat} {ls : Array Slot} {rest st0 : List Value} {D : va_G} {A : Nat → Prop} {K : List (ClassId × FieldType)} {wc : va_W} {H0 : Heap} {mc ms : Nat}
theorem jxi {S : Type} {post : Int32 → S → Prop} {w1 : S → va_W} {a : Array Value} (X Z : va_W) (hr : va_Run p l e R s m args below meth c H locs cells slots mc ms (F0 m pc ls st0) rest (va_Qi post (Bw D K (va_A wc H.size) w1) (va_A wc H.size) a) (va_A wc H.size)) (hP : va_P D vwCl (X ++ (wc ++ Z)) H) (hD : va_D A (X ++ (wc ++ Z))) (hS : va_S A H0 H locs) (hA : ∀ q, H0.size ≤ q → A q)
    (kk : ∀ (r : Int32) (u : S) (H1 : Heap) (locs1 : List Loc), post r u → va_P D vwCl (X ++ (w1 u ++ Z)) H1 → va_D A (X ++ (w1 u ++ Z)) → va_S A H0 H1 locs1 → W p l e R s m args below meth c H1 locs1 (cells + mc) (slots + ms) Q (F0 m (pc + 3) ls (.int r :: rest))) : W p l e R s m args below meth c H locs cells slots Q (F0 m pc ls st0) := by
  have hF : ∀ q, va_A wc H.size q → A q := fun q h => h.elim (fun ⟨k, e, hk⟩ => (va_D_l (va_D_r hD)).2 k _ hk) (fun h => hA q (Nat.le_trans hS.1 h))
  refine va_calli hr hS (fun q _ h => hF q h) hF (fun r u t H1 locs1 ht hvm hw hB hz1 hk1 hS1 => ?_)
  obtain ⟨b1, b2, b3⟩ := hB
  rw [ht] at b1
  obtain ⟨f1, f2⟩ := fr_mid hP hD hk1 hF b1 b3
  exact kk r u H1 locs1 hw f1 f2 hS1
theorem jxl {S : Type} {post : Int64 → S → Prop} {w1 : S → va_W} {a : Array Value} (X Z : va_W) (hr : va_Run p l e R s m args below meth c H locs cells slots mc ms (F0 m pc ls st0) rest (va_Ql post (Bw D K (va_A wc H.size) w1) (va_A wc H.size) a) (va_A wc H.size)) (hP : va_P D vwCl (X ++ (wc ++ Z)) H) (hD : va_D A (X ++ (wc ++ Z))) (hS : va_S A H0 H locs) (hA : ∀ q, H0.size ≤ q → A q)
    (kk : ∀ (r : Int64) (u : S) (H1 : Heap) (locs1 : List Loc), post r u → va_P D vwCl (X ++ (w1 u ++ Z)) H1 → va_D A (X ++ (w1 u ++ Z)) → va_S A H0 H1 locs1 → W p l e R s m args below meth c H1 locs1 (cells + mc) (slots + ms) Q (F0 m (pc + 3) ls (.long r :: rest))) : W p l e R s m args below meth c H locs cells slots Q (F0 m pc ls st0) := by
  have hF : ∀ q, va_A wc H.size q → A q := fun q h => h.elim (fun ⟨k, e, hk⟩ => (va_D_l (va_D_r hD)).2 k _ hk) (fun h => hA q (Nat.le_trans hS.1 h))
  refine va_calll hr hS (fun q _ h => hF q h) hF (fun r u t H1 locs1 ht hvm hw hB hz1 hk1 hS1 => ?_)
  obtain ⟨b1, b2, b3⟩ := hB
  rw [ht] at b1
  obtain ⟨f1, f2⟩ := fr_mid hP hD hk1 hF b1 b3
  exact kk r u H1 locs1 hw f1 f2 hS1
theorem jxv {S : Type} {post : S → Prop} {w1 : S → va_W} {a : Array Value} (X Z : va_W) (hr : va_Run p l e R s m args below meth c H locs cells slots mc ms (F0 m pc ls st0) rest (va_Qv post (Bw D K (va_A wc H.size) w1) (va_A wc H.size) a) (va_A wc H.size)) (hP : va_P D vwCl (X ++ (wc ++ Z)) H) (hD : va_D A (X ++ (wc ++ Z))) (hS : va_S A H0 H locs) (hA : ∀ q, H0.size ≤ q → A q)
    (kk : ∀ (u : S) (H1 : Heap) (locs1 : List Loc), post u → va_P D vwCl (X ++ (w1 u ++ Z)) H1 → va_D A (X ++ (w1 u ++ Z)) → va_S A H0 H1 locs1 → W p l e R s m args below meth c H1 locs1 (cells + mc) (slots + ms) Q (F0 m (pc + 3) ls rest)) : W p l e R s m args below meth c H locs cells slots Q (F0 m pc ls st0) := by
  have hF : ∀ q, va_A wc H.size q → A q := fun q h => h.elim (fun ⟨k, e, hk⟩ => (va_D_l (va_D_r hD)).2 k _ hk) (fun h => hA q (Nat.le_trans hS.1 h))
  refine va_callv hr hS (fun q _ h => hF q h) hF (fun u t H1 locs1 ht hvm hw hB hz1 hk1 hS1 => ?_)
  obtain ⟨b1, b2, b3⟩ := hB
  rw [ht] at b1
  obtain ⟨f1, f2⟩ := fr_mid hP hD hk1 hF b1 b3
  exact kk u H1 locs1 hw f1 f2 hS1
/-- a call that answers a reference, over the whole world of the caller -/
theorem swr {S : Type} {post : S → Prop} {w1 : S → va_W} {g : S → Nat} {a : Array Value} (hr : va_Run p l e R s m args below meth c H locs cells slots mc ms (F0 m pc ls st0) rest (va_Qr post (fun u q t => g u = q ∧ Bw D K (va_A wc H.size) w1 u t) (va_A wc H.size) a) (va_A wc H.size)) (hD : va_D A wc) (hS : va_S A H0 H locs) (hA : ∀ q, H0.size ≤ q → A q)
    (kk : ∀ (u : S) (H1 : Heap) (locs1 : List Loc), post u → va_P D vwCl (w1 u) H1 → va_D A (w1 u) → va_S A H0 H1 locs1 → W p l e R s m args below meth c H1 locs1 (cells + mc) (slots + ms) Q (F0 m (pc + 3) ls (.ref (g u) :: rest))) : W p l e R s m args below meth c H locs cells slots Q (F0 m pc ls st0) := by
  have hF : ∀ q, va_A wc H.size q → A q := fun q h => h.elim (fun ⟨k, e, hk⟩ => hD.2 k _ hk) (fun h => hA q (Nat.le_trans hS.1 h))
  refine va_callr hr hS (fun q _ h => hF q h) hF (fun u ra t H1 locs1 ht hvm hw hB hz1 hk1 hS1 => ?_)
  obtain ⟨rfl, b1, b2, b3⟩ := hB
  rw [ht] at b1
  exact kk u H1 locs1 hw b1 (b3.weaken (fun _ _ _ h => hF _ h)) hS1
end HB5
theorem va_P_in {D : va_G} {cl : List vw_C} {ws wo : va_W} {H : Heap} (h : va_P D cl ws H) (hi : ∀ x ∈ wo, x ∈ ws) : va_P D cl wo H := va_P_iff.mpr (fun x hx => va_P_iff.mp h x (hi x hx))
theorem D_cross2 {A : Nat → Prop} {ws w0 wo : va_W} (h : va_D A (ws ++ w0)) (ho : va_D A wo) (hi : ∀ x ∈ wo, x ∈ ws) : va_D A (w0 ++ wo) :=
  va_D_app.mpr ⟨va_D_r h, ho, fun x hx y hy e => (va_D_app.mp h).2.2 y (hi y hy) x hx e.symm⟩
theorem in_sub {ws wo : va_W} (is : List Nat) (hs : is.filterMap (fun i => ws[i]?) = wo) : ∀ x ∈ wo, x ∈ ws := fun x hx => by
  subst hs
  obtain ⟨i, -, hi⟩ := List.mem_filterMap.mp hx
  exact List.mem_of_getElem? hi
/-- the stored tallies: their cells lie in the tail, their contents are as G says -/
def TL (cs : Nat → ClassId) (at_ : Nat → Nat) (tl : va_W) (h_tal : Nat → Option Nat) (G : Nat → Nat → (Nat → Int64) → Prop) : Prop := ∀ (j q : Nat), h_tal j = some q → ∃ (ax : Nat → Nat) (yn : Nat) (y_size : Int32) (y_ord : Nat → Int64), q = ax 0 ∧ (∀ x ∈ wX4 cs ax at_ yn y_size y_ord, x ∈ tl) ∧ G j yn y_ord
theorem TL_up {cs : Nat → ClassId} {at_ : Nat → Nat} {tl : va_W} {h_tal : Nat → Option Nat} {G : Nat → Nat → (Nat → Int64) → Prop} (h : TL cs at_ tl h_tal G) (i : Nat) (ax : Nat → Nat) (yn : Nat) (y_size : Int32) (y_ord : Nat → Int64) (hG : G i yn y_ord) : TL cs at_ (tl ++ wX4 cs ax at_ yn y_size y_ord) (va_up h_tal i (some (ax 0))) G := by
  intro j q hj
  unfold va_up at hj
  by_cases hij : j = i
  · subst hij
    rw [if_pos rfl] at hj
    cases hj
    exact ⟨ax, yn, y_size, y_ord, rfl, fun x hx => List.mem_append_right _ hx, hG⟩
  · rw [if_neg hij] at hj
    obtain ⟨ax', yn', ys', yo', h1, h2, h3⟩ := h j q hj
    exact ⟨ax', yn', ys', yo', h1, fun x hx => List.mem_append_left _ (h2 x hx), h3⟩
theorem wX6_tl {cs : Nat → ClassId} {ah : Nat → Nat} {sh : Nat → Nat → Nat} {al : Nat → Nat} {bx : Nat → Nat} {aw : Nat → Nat} {ac : Nat → Nat} {at_ : Nat → Nat} {rr : Nat → Nat} {ru : Nat → Nat} {tl : va_W} {h_size : Int32} {h_opened : Int32} {h_tal : Nat → Option Nat} {s0_row : Nat → Int32} {s0_made : Nat → Int32} {s0_size : Int32} {s1_row : Nat → Int32} {s1_made : Nat → Int32} {s1_size : Int32} {s2_row : Nat → Int32} {s2_made : Nat → Int32} {s2_size : Int32} {s3_row : Nat → Int32} {s3_made : Nat → Int32} {s3_size : Int32} {l_len : Nat → Int32} {l_ways : Nat → Int64} {l_box : Nat → Nat → Int32} {w_used : Nat → Int32} {w_kind : Int32} {w_size : Int32} {w_left : Int32} {w_last : Int32} {w_top : Int32} {w_wanted : Int32} {c_row : Nat → Int32} {c_made : Nat → Int32} {c_size : Int32} {t_fac : Nat → Int64} {t_der : Nat → Int64} {t_rec : Nat → Nat → Int64} {t_rut : Nat → Nat → Int64} {t_ris : Nat → Int64} (w : va_W) : (wX6 cs ah sh al bx aw ac at_ rr ru tl h_size h_opened h_tal s0_row s0_made s0_size s1_row s1_made s1_size s2_row s2_made s2_size s3_row s3_made s3_size l_len l_ways l_box w_used w_kind w_size w_left w_last w_top w_wanted c_row c_made c_size t_fac t_der t_rec t_rut t_ris) ++ w = (wX6 cs ah sh al bx aw ac at_ rr ru (tl ++ w) h_size h_opened h_tal s0_row s0_made s0_size s1_row s1_made s1_size s2_row s2_made s2_size s3_row s3_made s3_size l_len l_ways l_box w_used w_kind w_size w_left w_last w_top w_wanted c_row c_made c_size t_fac t_der t_rec t_rut t_ris) := by
  simp only [wX6, List.append_assoc, List.cons_append, List.nil_append]
theorem wX6_x3 {cs : Nat → ClassId} {ah : Nat → Nat} {sh : Nat → Nat → Nat} {al : Nat → Nat} {bx : Nat → Nat} {aw : Nat → Nat} {ac : Nat → Nat} {at_ : Nat → Nat} {rr : Nat → Nat} {ru : Nat → Nat} {tl : va_W} {h_size : Int32} {h_opened : Int32} {h_tal : Nat → Option Nat} {s0_row : Nat → Int32} {s0_made : Nat → Int32} {s0_size : Int32} {s1_row : Nat → Int32} {s1_made : Nat → Int32} {s1_size : Int32} {s2_row : Nat → Int32} {s2_made : Nat → Int32} {s2_size : Int32} {s3_row : Nat → Int32} {s3_made : Nat → Int32} {s3_size : Int32} {l_len : Nat → Int32} {l_ways : Nat → Int64} {l_box : Nat → Nat → Int32} {w_used : Nat → Int32} {w_kind : Int32} {w_size : Int32} {w_left : Int32} {w_last : Int32} {w_top : Int32} {w_wanted : Int32} {c_row : Nat → Int32} {c_made : Nat → Int32} {c_size : Int32} {t_fac : Nat → Int64} {t_der : Nat → Int64} {t_rec : Nat → Nat → Int64} {t_rut : Nat → Nat → Int64} {t_ris : Nat → Int64} : ∀ x ∈ (wX3 cs at_ rr ru t_fac t_der t_rec t_rut t_ris), x ∈ (wX6 cs ah sh al bx aw ac at_ rr ru tl h_size h_opened h_tal s0_row s0_made s0_size s1_row s1_made s1_size s2_row s2_made s2_size s3_row s3_made s3_size l_len l_ways l_box w_used w_kind w_size w_left w_last w_top w_wanted c_row c_made c_size t_fac t_der t_rec t_rut t_ris) := in_sub [42, 43, 44, 45, 46, 47, 48, 49, 50, 51, 52, 53, 54, 55, 56, 57, 58, 59, 60, 61, 62, 63, 64, 65, 66, 67, 68, 69, 70, 71, 72, 73, 74, 75, 76, 77, 78, 79, 80, 81, 82, 83, 84, 85] rfl
theorem wX6_in {cs : Nat → ClassId} {ah : Nat → Nat} {sh : Nat → Nat → Nat} {al : Nat → Nat} {bx : Nat → Nat} {aw : Nat → Nat} {ac : Nat → Nat} {at_ : Nat → Nat} {rr : Nat → Nat} {ru : Nat → Nat} {tl : va_W} {h_size : Int32} {h_opened : Int32} {h_tal : Nat → Option Nat} {s0_row : Nat → Int32} {s0_made : Nat → Int32} {s0_size : Int32} {s1_row : Nat → Int32} {s1_made : Nat → Int32} {s1_size : Int32} {s2_row : Nat → Int32} {s2_made : Nat → Int32} {s2_size : Int32} {s3_row : Nat → Int32} {s3_made : Nat → Int32} {s3_size : Int32} {l_len : Nat → Int32} {l_ways : Nat → Int64} {l_box : Nat → Nat → Int32} {w_used : Nat → Int32} {w_kind : Int32} {w_size : Int32} {w_left : Int32} {w_last : Int32} {w_top : Int32} {w_wanted : Int32} {c_row : Nat → Int32} {c_made : Nat → Int32} {c_size : Int32} {t_fac : Nat → Int64} {t_der : Nat → Int64} {t_rec : Nat → Nat → Int64} {t_rut : Nat → Nat → Int64} {t_ris : Nat → Int64} : ∀ x ∈ tl, x ∈ (wX6 cs ah sh al bx aw ac at_ rr ru tl h_size h_opened h_tal s0_row s0_made s0_size s1_row s1_made s1_size s2_row s2_made s2_size s3_row s3_made s3_size l_len l_ways l_box w_used w_kind w_size w_left w_last w_top w_wanted c_row c_made c_size t_fac t_der t_rec t_rut t_ris) := fun x hx => by
  simp only [wX6, List.mem_append]
  exact Or.inr (Or.inr (Or.inr (Or.inr (Or.inr hx))))
set_option maxHeartbeats 8000000 in
set_option maxRecDepth 100000 in
theorem c6_tallyOf (l : Launch) (dC : Nat → ClassId) (dI : Nat → Nat → Nat) (cs : Nat → ClassId) (ah : Nat → Nat) (sh : Nat → Nat → Nat) (al : Nat → Nat) (bx : Nat → Nat) (aw : Nat → Nat) (ac : Nat → Nat) (at_ : Nat → Nat) (rr : Nat → Nat) (ru : Nat → Nat) (tl : va_W) (sz : Nat) (h_size : Int32) (h_opened : Int32) (h_tal : Nat → Option Nat) (s0_row : Nat → Int32) (s0_made : Nat → Int32) (s0_size : Int32) (s1_row : Nat → Int32) (s1_made : Nat → Int32) (s1_size : Int32) (s2_row : Nat → Int32) (s2_made : Nat → Int32) (s2_size : Int32) (s3_row : Nat → Int32) (s3_made : Nat → Int32) (s3_size : Int32) (l_len : Nat → Int32) (l_ways : Nat → Int64) (l_box : Nat → Nat → Int32) (w_used : Nat → Int32) (w_kind : Int32) (w_size : Int32) (w_left : Int32) (w_last : Int32) (w_top : Int32) (w_wanted : Int32) (c_row : Nat → Int32) (c_made : Nat → Int32) (c_size : Int32) (t_fac : Nat → Int64) (t_der : Nat → Int64) (t_rec : Nat → Nat → Int64) (t_rut : Nat → Nat → Int64) (t_ris : Nat → Int64) (a1 : Int32) {G : Nat → Nat → (Nat → Int64) → Prop} (hT : TL cs at_ tl h_tal G) (hi : vp_in ((a1 * (19 : Int32)) + h_size) 152) (hq : h_tal ((a1 * (19 : Int32)) + h_size).toNatClampNeg = none → q4_init t_fac t_der t_rec t_rut t_ris a1 h_size (fun yn y => G ((a1 * (19 : Int32)) + h_size).toNatClampNeg yn y)) : Met l yX6_tallyOf (.code yX6_tallyOf cX6_tallyOf 3 (some (.object "HundredBoxes$Tally")) :: gt) ({ frames := 5, cells := 4, slots := 234, locals := 122 } : Room) (va_Pc [.ref (ah 0), .int a1] (Pw (dC, dI) (KA cs) (wX6 cs ah sh al bx aw ac at_ rr ru tl h_size h_opened h_tal s0_row s0_made s0_size s1_row s1_made s1_size s2_row s2_made s2_size s3_row s3_made s3_size l_len l_ways l_box w_used w_kind w_size w_left w_last w_top w_wanted c_row c_made c_size t_fac t_der t_rec t_rut t_ris) sz)) (va_Qr (fun u : (Nat → Option Nat) × va_W × Nat => TL cs at_ u.2.1 u.1 G ∧ u.1 ((a1 * (19 : Int32)) + h_size).toNatClampNeg = some u.2.2) (fun (u : (Nat → Option Nat) × va_W × Nat) (q : Nat) (t : State) => u.2.2 = q ∧ Bw (dC, dI) (KA cs) (va_A (wX6 cs ah sh al bx aw ac at_ rr ru tl h_size h_opened h_tal s0_row s0_made s0_size s1_row s1_made s1_size s2_row s2_made s2_size s3_row s3_made s3_size l_len l_ways l_box w_used w_kind w_size w_left w_last w_top w_wanted c_row c_made c_size t_fac t_der t_rec t_rut t_ris) sz) (fun u : (Nat → Option Nat) × va_W × Nat => (wX6 cs ah sh al bx aw ac at_ rr ru u.2.1 h_size h_opened u.1 s0_row s0_made s0_size s1_row s1_made s1_size s2_row s2_made s2_size s3_row s3_made s3_size l_len l_ways l_box w_used w_kind w_size w_left w_last w_top w_wanted c_row c_made c_size t_fac t_der t_rec t_rut t_ris)) u t) (va_A (wX6 cs ah sh al bx aw ac at_ rr ru tl h_size h_opened h_tal s0_row s0_made s0_size s1_row s1_made s1_size s2_row s2_made s2_size s3_row s3_made s3_size l_len l_ways l_box w_used w_kind w_size w_left w_last w_top w_wanted c_row c_made c_size t_fac t_der t_rec t_rut t_ris) sz)) 4 234 (va_A (wX6 cs ah sh al bx aw ac at_ rr ru tl h_size h_opened h_tal s0_row s0_made s0_size s1_row s1_made s1_size s2_row s2_made s2_size s3_row s3_made s3_size l_len l_ways l_box w_used w_kind w_size w_left w_last w_top w_wanted c_row c_made c_size t_fac t_der t_rec t_rut t_ris) sz) := by
  refine Met.ofW (cc := cX6_tallyOf) (maxL := 3) (ret := (some (.object "HundredBoxes$Tally"))) (by decide) rfl ?_
  intro p e s m args below meth c s₁ B hml hv
  obtain ⟨rfl, hsz, hP, hK, hD0, hN⟩ := hv
  have hx := B.exec
  have hb := B.bytes
  have hr := B.returns
  have hts0 := atoms_spec (ws := (.code yX6_tallyOf cX6_tallyOf 3 (some (.object "HundredBoxes$Tally")) :: gt)) B.pre
  have hts : ∀ w ∈ gt, w.before _ s = true := fun w h => hts0 w (List.mem_cons_of_mem _ h)
  have hown : s.vm.findClass RX6 = some m.cls := findClass_of_methodNamed B.named
  have hlocks := B.notSynchronized
  subst hsz
  have hD := hD0.self (sz := s.heap.size)
  generalize hAe : va_A (wX6 cs ah sh al bx aw ac at_ rr ru tl h_size h_opened h_tal s0_row s0_made s0_size s1_row s1_made s1_size s2_row s2_made s2_size s3_row s3_made s3_size l_len l_ways l_box w_used w_kind w_size w_left w_last w_top w_wanted c_row c_made c_size t_fac t_der t_rec t_rut t_ris) s.heap.size = A at hD ⊢
  have hA : ∀ q : Nat, s.heap.size ≤ q → A q := fun q h => by rw [← hAe]; exact Or.inr h
  have hS : va_S A s.heap s.heap [] := va_S.rf
  have hl := lv_entry ([.ref (ah 0), .int a1]) (n := 3) (Nat.le_of_ble_eq_true rfl)
  rw [lg_entry_eq]
  generalize (lg_sl ([.ref (ah 0), .int a1]) ++ List.replicate (3 - (lg_sl ([.ref (ah 0), .int a1])).length) Slot.unset).toArray = ls at hl ⊢
  have hl : lv_has ls 3 [(0, .ref (ah 0)), (1, .int a1)] := hl
  refine lv_iload_n hx hb dX6_tallyOf_0 rfl (lv_at hl 1 rfl) ?_
  refine lv_bipush (v := (19 : Int32)) hx hb dX6_tallyOf_1 (by decide) ?_
  refine lv_imul hx hb dX6_tallyOf_3 ?_
  refine lv_aload_n hx hb dX6_tallyOf_4 rfl (lv_at hl 0 rfl) ?_
  refine va_get (D := (dC, dI)) (ci := 6) (v := .int h_size) (C := RX6) (T := TX6) (N := 8) hx hb hts uwX6 hown hK hP 0 rfl rfl 6 (by decide) (hts _ fl_X6_102) (fun _ h9 => h9) rfl dX6_tallyOf_5 ?_
  refine lv_iadd hx hb dX6_tallyOf_8 ?_
  refine lv_istore_n (lv' := [(2, .int ((a1 * (19 : Int32)) + h_size)), (0, .ref (ah 0)), (1, .int a1)]) hx hb dX6_tallyOf_9 rfl hl (by decide) rfl (fun ls hl => ?_)
  refine lv_aload_n hx hb dX6_tallyOf_10 rfl (lv_at hl 1 rfl) ?_
  refine va_get (D := (dC, dI)) (ci := 6) (v := .ref (ah 2)) (C := RX6) (T := TX6) (N := 8) hx hb hts uwX6 hown hK hP 0 rfl rfl 5 (by decide) (hts _ fl_X6_45) (fun _ h9 => h9) rfl dX6_tallyOf_11 ?_
  refine lv_iload_n hx hb dX6_tallyOf_14 rfl (lv_at hl 0 rfl) ?_
  refine va_aldq hx hb hK hP 2 4 rfl rfl hi dX6_tallyOf_15 ?_
  cases ho : h_tal ((a1 * (19 : Int32)) + h_size).toNatClampNeg with
  | some q =>
    refine W.eq (g2 := F0 m 16 ls [.ref q]) rfl ?_
    refine lv_ifnonnull (tgt := 41) hx hb dX6_tallyOf_16 (by decide) ?_
    have hP : va_P (dC, dI) vwCl (wX6 cs ah sh al bx aw ac at_ rr ru tl h_size h_opened h_tal s0_row s0_made s0_size s1_row s1_made s1_size s2_row s2_made s2_size s3_row s3_made s3_size l_len l_ways l_box w_used w_kind w_size w_left w_last w_top w_wanted c_row c_made c_size t_fac t_der t_rec t_rut t_ris) s.heap := hP
    have hD : va_D A (wX6 cs ah sh al bx aw ac at_ rr ru tl h_size h_opened h_tal s0_row s0_made s0_size s1_row s1_made s1_size s2_row s2_made s2_size s3_row s3_made s3_size l_len l_ways l_box w_used w_kind w_size w_left w_last w_top w_wanted c_row c_made c_size t_fac t_der t_rec t_rut t_ris) := hD
    refine lv_aload_n hx hb dX6_tallyOf_41 rfl (lv_at hl 1 rfl) ?_
    refine va_get (D := (dC, dI)) (ci := 6) (v := .ref (ah 2)) (C := RX6) (T := TX6) (N := 8) hx hb hts uwX6 hown hK hP 0 rfl rfl 5 (by decide) (hts _ fl_X6_45) (fun _ h9 => h9) rfl dX6_tallyOf_42 ?_
    refine lv_iload_n hx hb dX6_tallyOf_45 rfl (lv_at hl 0 rfl) ?_
    refine va_aldq hx hb hK hP 2 4 rfl rfl hi dX6_tallyOf_46 ?_
    refine W.eq (g2 := F0 m 47 ls [.ref q]) (by rw [ho]; rfl) ?_
    refine W.widen (k := 4) (n := 234) (by decide) (by decide) ?_
    exact W.aret (v := .ref q) hx hb hr (Or.inl ⟨_, rfl⟩) (Or.inr ⟨_, rfl⟩) (fun t ht hW => ⟨⟨(h_tal, tl, q), q, rfl, ⟨hT, ho⟩, rfl, Bw_mk (by rw [ht]; exact hP) (va_K.moved hW.alike hK) hD⟩, hS.F ht⟩) hS.2.2 dX6_tallyOf_47
  | none =>
    have hq := hq ho
    refine W.eq (g2 := F0 m 16 ls [.null]) rfl ?_
    refine lv_ifnonnullN hx hb dX6_tallyOf_16 ?_
    refine lv_aload_n hx hb dX6_tallyOf_19 rfl (lv_at hl 1 rfl) ?_
    refine va_get (D := (dC, dI)) (ci := 6) (v := .ref (ah 2)) (C := RX6) (T := TX6) (N := 8) hx hb hts uwX6 hown hK hP 0 rfl rfl 5 (by decide) (hts _ fl_X6_45) (fun _ h9 => h9) rfl dX6_tallyOf_20 ?_
    refine lv_iload_n hx hb dX6_tallyOf_23 rfl (lv_at hl 0 rfl) ?_
    refine va_new (ci := 4) (fs := [.int 0, .null, .null]) (C := RX4) (T := TX4) (N := 3) hx hb hts uwX4 tyX4 tyX4_ok hown (hts _ cl_X6_43) (hts _ ib_X4) (hts _ in_X4) hK hP hD hS hA rfl (fun j hj => by rcases (show j = 0 ∨ j = 1 ∨ j = 2 by omega) with rfl | rfl | rfl <;> rfl) (Nat.le_of_ble_eq_true rfl) (Nat.le_of_ble_eq_true rfl) dX6_tallyOf_24 (fun q1 H hP hD hS => ?_)
    have hP : va_P (dC, dI) vwCl ((wX6 cs ah sh al bx aw ac at_ rr ru tl h_size h_opened h_tal s0_row s0_made s0_size s1_row s1_made s1_size s2_row s2_made s2_size s3_row s3_made s3_size l_len l_ways l_box w_used w_kind w_size w_left w_last w_top w_wanted c_row c_made c_size t_fac t_der t_rec t_rut t_ris) ++ [(q1, .inr (4, [.int 0, .null, .null]))]) H := hP
    have hD : va_D A ((wX6 cs ah sh al bx aw ac at_ rr ru tl h_size h_opened h_tal s0_row s0_made s0_size s1_row s1_made s1_size s2_row s2_made s2_size s3_row s3_made s3_size l_len l_ways l_box w_used w_kind w_size w_left w_last w_top w_wanted c_row c_made c_size t_fac t_der t_rec t_rut t_ris) ++ [(q1, .inr (4, [.int 0, .null, .null]))]) := hD
    refine lv_dup hx hb dX6_tallyOf_27 rfl ?_
    refine lv_iload_n hx hb dX6_tallyOf_28 rfl (lv_at hl 2 rfl) ?_
    refine lv_aload_n hx hb dX6_tallyOf_29 rfl (lv_at hl 1 rfl) ?_
    refine va_get (D := (dC, dI)) (ci := 6) (v := .int h_size) (C := RX6) (T := TX6) (N := 8) hx hb hts uwX6 hown hK hP 0 rfl rfl 6 (by decide) (hts _ fl_X6_102) (fun _ h9 => h9) rfl dX6_tallyOf_30 ?_
    refine lv_aload_n hx hb dX6_tallyOf_33 rfl (lv_at hl 1 rfl) ?_
    refine va_get (D := (dC, dI)) (ci := 6) (v := .ref (at_ 0)) (C := RX6) (T := TX6) (N := 8) hx hb hts uwX6 hown hK hP 0 rfl rfl 3 (by decide) (hts _ fl_X6_30) (fun _ h9 => h9) rfl dX6_tallyOf_34 ?_
    have hO9 : va_P (dC, dI) vwCl (wX3 cs at_ rr ru t_fac t_der t_rec t_rut t_ris) H := va_P_in (va_P_l hP) wX6_x3
    have hDO9 : va_D A (wX3 cs at_ rr ru t_fac t_der t_rec t_rut t_ris) := (va_D_l hD).sub (ws' := (wX3 cs at_ rr ru t_fac t_der t_rec t_rut t_ris)) [42, 43, 44, 45, 46, 47, 48, 49, 50, 51, 52, 53, 54, 55, 56, 57, 58, 59, 60, 61, 62, 63, 64, 65, 66, 67, 68, 69, 70, 71, 72, 73, 74, 75, 76, 77, 78, 79, 80, 81, 82, 83, 84, 85] (by decide) rfl
    have hP8 : va_P (dC, dI) vwCl ((wX6 cs ah sh al bx aw ac at_ rr ru tl h_size h_opened h_tal s0_row s0_made s0_size s1_row s1_made s1_size s2_row s2_made s2_size s3_row s3_made s3_size l_len l_ways l_box w_used w_kind w_size w_left w_last w_top w_wanted c_row c_made c_size t_fac t_der t_rec t_rut t_ris) ++ ([(q1, .inr (4, [.int 0, .null, .null]))] ++ [])) H := by rw [List.append_nil]; exact hP
    have hD8 : va_D A ((wX6 cs ah sh al bx aw ac at_ rr ru tl h_size h_opened h_tal s0_row s0_made s0_size s1_row s1_made s1_size s2_row s2_made s2_size s3_row s3_made s3_size l_len l_ways l_box w_used w_kind w_size w_left w_last w_top w_wanted c_row c_made c_size t_fac t_der t_rec t_rut t_ris) ++ ([(q1, .inr (4, [.int 0, .null, .null]))] ++ [])) := by rw [List.append_nil]; exact hD
    refine jxv (wX6 cs ah sh al bx aw ac at_ rr ru tl h_size h_opened h_tal s0_row s0_made s0_size s1_row s1_made s1_size s2_row s2_made s2_size s3_row s3_made s3_size l_len l_ways l_box w_used w_kind w_size w_left w_last w_top w_wanted c_row c_made c_size t_fac t_der t_rec t_rut t_ris) [] (runI ⟨hx, hb, hml, hown, hts⟩ wi_X4_init ml_X6_186 (c4_init l dC dI cs q1 at_ rr ru _ t_fac t_der t_rec t_rut t_ris a1 h_size hq) ⟨⟨rfl, rfl⟩, by decide, by decide⟩ (preW3 (va_P_r hP) hO9 hK hN (D_cross2 hD hDO9 wX6_x3)) hN rfl hl.1 rfl (Nat.le_of_ble_eq_true rfl) dX6_tallyOf_37 ⟨(Nat.le_of_ble_eq_true rfl), (Nat.le_of_ble_eq_true rfl)⟩) hP8 hD8 hS hA (fun u H locs hw hP2 hD2 hS => ?_)
    obtain ⟨ax, yn, y_ord⟩ := u
    obtain ⟨hw, hG⟩ := hw
    have hw : ax 0 = q1 := hw
    subst hw
    try dsimp only at hG
    have hP : va_P (dC, dI) vwCl ((wX6 cs ah sh al bx aw ac at_ rr ru tl h_size h_opened h_tal s0_row s0_made s0_size s1_row s1_made s1_size s2_row s2_made s2_size s3_row s3_made s3_size l_len l_ways l_box w_used w_kind w_size w_left w_last w_top w_wanted c_row c_made c_size t_fac t_der t_rec t_rut t_ris) ++ ((wX4 cs ax at_ yn h_size y_ord) ++ [])) H := hP2
    have hD : va_D A ((wX6 cs ah sh al bx aw ac at_ rr ru tl h_size h_opened h_tal s0_row s0_made s0_size s1_row s1_made s1_size s2_row s2_made s2_size s3_row s3_made s3_size l_len l_ways l_box w_used w_kind w_size w_left w_last w_top w_wanted c_row c_made c_size t_fac t_der t_rec t_rut t_ris) ++ ((wX4 cs ax at_ yn h_size y_ord) ++ [])) := hD2
    refine va_astq hx hb hK hP hD hS 2 4 (wX6 cs ah sh al bx aw ac at_ rr ru tl h_size h_opened h_tal s0_row s0_made s0_size s1_row s1_made s1_size s2_row s2_made s2_size s3_row s3_made s3_size l_len l_ways l_box w_used w_kind w_size w_left w_last w_top w_wanted c_row c_made c_size t_fac t_der t_rec t_rut t_ris).length 4 rfl rfl (by rw [List.getElem?_append_right (Nat.le_refl _), Nat.sub_self]; rfl) rfl hi dX6_tallyOf_40 (fun H locs hP hD hS => ?_)
    have hP : va_P (dC, dI) vwCl ((wX6 cs ah sh al bx aw ac at_ rr ru tl h_size h_opened (va_up h_tal ((a1 * (19 : Int32)) + h_size).toNatClampNeg (some (ax 0))) s0_row s0_made s0_size s1_row s1_made s1_size s2_row s2_made s2_size s3_row s3_made s3_size l_len l_ways l_box w_used w_kind w_size w_left w_last w_top w_wanted c_row c_made c_size t_fac t_der t_rec t_rut t_ris) ++ ((wX4 cs ax at_ yn h_size y_ord) ++ [])) H := hP
    have hD : va_D A ((wX6 cs ah sh al bx aw ac at_ rr ru tl h_size h_opened (va_up h_tal ((a1 * (19 : Int32)) + h_size).toNatClampNeg (some (ax 0))) s0_row s0_made s0_size s1_row s1_made s1_size s2_row s2_made s2_size s3_row s3_made s3_size l_len l_ways l_box w_used w_kind w_size w_left w_last w_top w_wanted c_row c_made c_size t_fac t_der t_rec t_rut t_ris) ++ ((wX4 cs ax at_ yn h_size y_ord) ++ [])) := hD
    rw [wX6_tl, List.append_nil] at hP hD
    have hup : (va_up h_tal ((a1 * (19 : Int32)) + h_size).toNatClampNeg (some (ax 0))) ((a1 * (19 : Int32)) + h_size).toNatClampNeg = some (ax 0) := by simp [va_up]
    have hP : va_P (dC, dI) vwCl (wX6 cs ah sh al bx aw ac at_ rr ru (tl ++ (wX4 cs ax at_ yn h_size y_ord)) h_size h_opened (va_up h_tal ((a1 * (19 : Int32)) + h_size).toNatClampNeg (some (ax 0))) s0_row s0_made s0_size s1_row s1_made s1_size s2_row s2_made s2_size s3_row s3_made s3_size l_len l_ways l_box w_used w_kind w_size w_left w_last w_top w_wanted c_row c_made c_size t_fac t_der t_rec t_rut t_ris) H := hP
    have hD : va_D A (wX6 cs ah sh al bx aw ac at_ rr ru (tl ++ (wX4 cs ax at_ yn h_size y_ord)) h_size h_opened (va_up h_tal ((a1 * (19 : Int32)) + h_size).toNatClampNeg (some (ax 0))) s0_row s0_made s0_size s1_row s1_made s1_size s2_row s2_made s2_size s3_row s3_made s3_size l_len l_ways l_box w_used w_kind w_size w_left w_last w_top w_wanted c_row c_made c_size t_fac t_der t_rec t_rut t_ris) := hD
    refine lv_aload_n hx hb dX6_tallyOf_41 rfl (lv_at hl 1 rfl) ?_
    refine va_get (D := (dC, dI)) (ci := 6) (v := .ref (ah 2)) (C := RX6) (T := TX6) (N := 8) hx hb hts uwX6 hown hK hP 0 rfl rfl 5 (by decide) (hts _ fl_X6_45) (fun _ h9 => h9) rfl dX6_tallyOf_42 ?_
    refine lv_iload_n hx hb dX6_tallyOf_45 rfl (lv_at hl 0 rfl) ?_
    refine va_aldq hx hb hK hP 2 4 rfl rfl hi dX6_tallyOf_46 ?_
    refine W.eq (g2 := F0 m 47 ls [.ref (ax 0)]) (by rw [hup]; rfl) ?_
    refine W.widen (k := 4) (n := 234) (by decide) (by decide) ?_
    exact W.aret (v := .ref (ax 0)) hx hb hr (Or.inl ⟨_, rfl⟩) (Or.inr ⟨_, rfl⟩) (fun t ht hW => ⟨⟨((va_up h_tal ((a1 * (19 : Int32)) + h_size).toNatClampNeg (some (ax 0))), (tl ++ (wX4 cs ax at_ yn h_size y_ord)), (ax 0)), (ax 0), rfl, ⟨TL_up hT ((a1 * (19 : Int32)) + h_size).toNatClampNeg ax yn h_size y_ord hG, hup⟩, rfl, Bw_mk (by rw [ht]; exact hP) (va_K.moved hW.alike hK) hD⟩, hS.F ht⟩) hS.2.2 dX6_tallyOf_47
def q6_many (h_size : Int32) (h_tal : Nat → Option Nat) (t_fac : Nat → Int64) (t_der : Nat → Int64) (t_rec : Nat → Nat → Int64) (t_rut : Nat → Nat → Int64) (t_ris : Nat → Int64) (a1 : Int32) (a2 : Int32) (G : Nat → Nat → (Nat → Int64) → Prop) (Q : Int64 → Prop) : Prop := q6_isKind a1 (fun r1 => (r1 = (0 : Int32) → Q (-2 : Int64)) ∧ (¬ r1 = (0 : Int32) → vp_in ((a1 * (19 : Int32)) + h_size) 152 ∧ (h_tal ((a1 * (19 : Int32)) + h_size).toNatClampNeg = none → q4_init t_fac t_der t_rec t_rut t_ris a1 h_size (fun yn y => G ((a1 * (19 : Int32)) + h_size).toNatClampNeg yn y)) ∧ (∀ (yn : Nat) (y : Nat → Int64), G ((a1 * (19 : Int32)) + h_size).toNatClampNeg yn y → q4_ordersWith yn y a2 Q)))
set_option maxHeartbeats 8000000 in
set_option maxRecDepth 100000 in
theorem c6_many (l : Launch) (dC : Nat → ClassId) (dI : Nat → Nat → Nat) (cs : Nat → ClassId) (ah : Nat → Nat) (sh : Nat → Nat → Nat) (al : Nat → Nat) (bx : Nat → Nat) (aw : Nat → Nat) (ac : Nat → Nat) (at_ : Nat → Nat) (rr : Nat → Nat) (ru : Nat → Nat) (tl : va_W) (sz : Nat) (h_size : Int32) (h_opened : Int32) (h_tal : Nat → Option Nat) (s0_row : Nat → Int32) (s0_made : Nat → Int32) (s0_size : Int32) (s1_row : Nat → Int32) (s1_made : Nat → Int32) (s1_size : Int32) (s2_row : Nat → Int32) (s2_made : Nat → Int32) (s2_size : Int32) (s3_row : Nat → Int32) (s3_made : Nat → Int32) (s3_size : Int32) (l_len : Nat → Int32) (l_ways : Nat → Int64) (l_box : Nat → Nat → Int32) (w_used : Nat → Int32) (w_kind : Int32) (w_size : Int32) (w_left : Int32) (w_last : Int32) (w_top : Int32) (w_wanted : Int32) (c_row : Nat → Int32) (c_made : Nat → Int32) (c_size : Int32) (t_fac : Nat → Int64) (t_der : Nat → Int64) (t_rec : Nat → Nat → Int64) (t_rut : Nat → Nat → Int64) (t_ris : Nat → Int64) (a1 : Int32) (a2 : Int32) {G : Nat → Nat → (Nat → Int64) → Prop} (hT : TL cs at_ tl h_tal G) {Q : Int64 → Prop} (hq : q6_many h_size h_tal t_fac t_der t_rec t_rut t_ris a1 a2 G Q) : Met l yX6_many (.code yX6_many cX6_many 3 (some .long) :: gt) ({ frames := 6, cells := 4, slots := 234, locals := 144 } : Room) (va_Pc [.ref (ah 0), .int a1, .int a2] (Pw (dC, dI) (KA cs) (wX6 cs ah sh al bx aw ac at_ rr ru tl h_size h_opened h_tal s0_row s0_made s0_size s1_row s1_made s1_size s2_row s2_made s2_size s3_row s3_made s3_size l_len l_ways l_box w_used w_kind w_size w_left w_last w_top w_wanted c_row c_made c_size t_fac t_der t_rec t_rut t_ris) sz)) (va_Ql (fun (r : Int64) (u : (Nat → Option Nat) × va_W) => Q r ∧ TL cs at_ u.2 u.1 G) (Bw (dC, dI) (KA cs) (va_A (wX6 cs ah sh al bx aw ac at_ rr ru tl h_size h_opened h_tal s0_row s0_made s0_size s1_row s1_made s1_size s2_row s2_made s2_size s3_row s3_made s3_size l_len l_ways l_box w_used w_kind w_size w_left w_last w_top w_wanted c_row c_made c_size t_fac t_der t_rec t_rut t_ris) sz) (fun u : (Nat → Option Nat) × va_W => (wX6 cs ah sh al bx aw ac at_ rr ru u.2 h_size h_opened u.1 s0_row s0_made s0_size s1_row s1_made s1_size s2_row s2_made s2_size s3_row s3_made s3_size l_len l_ways l_box w_used w_kind w_size w_left w_last w_top w_wanted c_row c_made c_size t_fac t_der t_rec t_rut t_ris))) (va_A (wX6 cs ah sh al bx aw ac at_ rr ru tl h_size h_opened h_tal s0_row s0_made s0_size s1_row s1_made s1_size s2_row s2_made s2_size s3_row s3_made s3_size l_len l_ways l_box w_used w_kind w_size w_left w_last w_top w_wanted c_row c_made c_size t_fac t_der t_rec t_rut t_ris) sz)) 4 234 (va_A (wX6 cs ah sh al bx aw ac at_ rr ru tl h_size h_opened h_tal s0_row s0_made s0_size s1_row s1_made s1_size s2_row s2_made s2_size s3_row s3_made s3_size l_len l_ways l_box w_used w_kind w_size w_left w_last w_top w_wanted c_row c_made c_size t_fac t_der t_rec t_rut t_ris) sz) := by
  refine Met.ofW (cc := cX6_many) (maxL := 3) (ret := (some .long)) (by decide) rfl ?_
  intro p e s m args below meth c s₁ B hml hv
  obtain ⟨rfl, hsz, hP, hK, hD0, hN⟩ := hv
  have hx := B.exec
  have hb := B.bytes
  have hr := B.returns
  have hts0 := atoms_spec (ws := (.code yX6_many cX6_many 3 (some .long) :: gt)) B.pre
  have hts : ∀ w ∈ gt, w.before _ s = true := fun w h => hts0 w (List.mem_cons_of_mem _ h)
  have hown : s.vm.findClass RX6 = some m.cls := findClass_of_methodNamed B.named
  have hlocks := B.notSynchronized
  subst hsz
  have hD := hD0.self (sz := s.heap.size)
  generalize hAe : va_A (wX6 cs ah sh al bx aw ac at_ rr ru tl h_size h_opened h_tal s0_row s0_made s0_size s1_row s1_made s1_size s2_row s2_made s2_size s3_row s3_made s3_size l_len l_ways l_box w_used w_kind w_size w_left w_last w_top w_wanted c_row c_made c_size t_fac t_der t_rec t_rut t_ris) s.heap.size = A at hD ⊢
  have hA : ∀ q : Nat, s.heap.size ≤ q → A q := fun q h => by rw [← hAe]; exact Or.inr h
  have hS : va_S A s.heap s.heap [] := va_S.rf
  have hl := lv_entry ([.ref (ah 0), .int a1, .int a2]) (n := 3) (Nat.le_of_ble_eq_true rfl)
  rw [lg_entry_eq]
  generalize (lg_sl ([.ref (ah 0), .int a1, .int a2]) ++ List.replicate (3 - (lg_sl ([.ref (ah 0), .int a1, .int a2])).length) Slot.unset).toArray = ls at hl ⊢
  have hl : lv_has ls 3 [(0, .ref (ah 0)), (1, .int a1), (2, .int a2)] := hl
  unfold q6_many at hq
  refine lv_iload_n hx hb dX6_many_0 rfl (lv_at hl 1 rfl) ?_
  refine roi (runS ⟨hx, hb, hml, hown, hts⟩ ws_X6_isKind ml_X6_82 (c6_isKind l dC dI cs a1 hq) ⟨⟨rfl, rfl⟩, by decide, by decide⟩ (preR va_P_nil hK hN) hN rfl hl.1 rfl (Nat.le_of_ble_eq_true rfl) dX6_many_1 ⟨(Nat.le_of_ble_eq_true rfl), (Nat.le_of_ble_eq_true rfl)⟩) (fun r1 hq => ?_)
  refine lv_if_eq (tgt := 19) hx hb dX6_many_4 (by decide) (fun c1 => ?_) (fun c1 => ?_)
  · have hq := hq.1 c1
    refine lv_ldc2 (v := (-2 : Int64)) hx hb hown (hts _ kl_X6_96) dX6_many_19 ?_
    refine W.widen (k := 4) (n := 234) (by decide) (by decide) ?_
    exact W.lret (v := (-2 : Int64)) hx hb hr (fun t ht hW => ⟨⟨(-2 : Int64), (h_tal, tl), rfl, ⟨hq, hT⟩, Bw_mk (by rw [ht]; exact hP) (va_K.moved hW.alike hK) hD⟩, hS.F ht⟩) hS.2.2 dX6_many_22
  · obtain ⟨hi, hq, hq2⟩ := hq.2 c1
    refine lv_aload_n hx hb dX6_many_7 rfl (lv_at hl 0 rfl) ?_
    refine lv_iload_n hx hb dX6_many_8 rfl (lv_at hl 1 rfl) ?_
    refine swr (runV ⟨hx, hb, hml, hown, hts⟩ wf_X6_tallyOf ml_X6_88 (c6_tallyOf l dC dI cs ah sh al bx aw ac at_ rr ru tl _ h_size h_opened h_tal s0_row s0_made s0_size s1_row s1_made s1_size s2_row s2_made s2_size s3_row s3_made s3_size l_len l_ways l_box w_used w_kind w_size w_left w_last w_top w_wanted c_row c_made c_size t_fac t_der t_rec t_rut t_ris a1 hT hi hq) ⟨⟨rfl, rfl⟩, by decide, by decide⟩ (preW hP hK hN hD) hK hP rfl 0 rfl rfl hl.1 rfl (Nat.le_of_ble_eq_true rfl) dX6_many_9 ⟨(Nat.le_of_ble_eq_true rfl), (Nat.le_of_ble_eq_true rfl)⟩) hD hS hA (fun u H locs hw hP hD hS => ?_)
    obtain ⟨tal1, tl1, q1⟩ := u
    obtain ⟨hT, hw⟩ := hw
    have hT : TL cs at_ tl1 tal1 G := hT
    have hw : tal1 ((a1 * (19 : Int32)) + h_size).toNatClampNeg = some q1 := hw
    have hP : va_P (dC, dI) vwCl (wX6 cs ah sh al bx aw ac at_ rr ru tl1 h_size h_opened tal1 s0_row s0_made s0_size s1_row s1_made s1_size s2_row s2_made s2_size s3_row s3_made s3_size l_len l_ways l_box w_used w_kind w_size w_left w_last w_top w_wanted c_row c_made c_size t_fac t_der t_rec t_rut t_ris) H := hP
    have hD : va_D A (wX6 cs ah sh al bx aw ac at_ rr ru tl1 h_size h_opened tal1 s0_row s0_made s0_size s1_row s1_made s1_size s2_row s2_made s2_size s3_row s3_made s3_size l_len l_ways l_box w_used w_kind w_size w_left w_last w_top w_wanted c_row c_made c_size t_fac t_der t_rec t_rut t_ris) := hD
    obtain ⟨ax, yn, y_size, y_ord, h0, hin9, hG⟩ := hT _ _ hw
    subst h0
    have hq := hq2 yn y_ord hG
    have hP9 : va_P (dC, dI) vwCl (wX4 cs ax at_ yn y_size y_ord) H := va_P_in hP (fun x hx => wX6_in x (hin9 x hx))
    have hO9 : va_P (dC, dI) vwCl (wX3 cs at_ rr ru t_fac t_der t_rec t_rut t_ris) H := va_P_in hP wX6_x3
    refine lv_iload_n hx hb dX6_many_12 rfl (lv_at hl 2 rfl) ?_
    refine rol (runV ⟨hx, hb, hml, hown, hts⟩ wf_X4_ordersWith ml_X6_92 (c4_ordersWith l dC dI cs ax at_ rr ru yn y_size y_ord t_fac t_der t_rec t_rut t_ris a2 hq) ⟨⟨rfl, rfl⟩, by decide, by decide⟩ (preR (va_P_app hP9 hO9) hK hN) hK hP9 rfl 0 rfl rfl hl.1 rfl (Nat.le_of_ble_eq_true rfl) dX6_many_13 ⟨(Nat.le_of_ble_eq_true rfl), (Nat.le_of_ble_eq_true rfl)⟩) (fun r2 hq => ?_)
    refine lv_goto (tgt := 22) hx hb dX6_many_16 (by decide) ?_
    exact W.lret (v := r2) hx hb hr (fun t ht hW => ⟨⟨r2, (tal1, tl1), rfl, ⟨hq, hT⟩, Bw_mk (by rw [ht]; exact hP) (va_K.moved hW.alike hK) hD⟩, hS.F ht⟩) hS.2.2 dX6_many_22
def q6_mean (h_size : Int32) (h_tal : Nat → Option Nat) (t_fac : Nat → Int64) (t_der : Nat → Int64) (t_rec : Nat → Nat → Int64) (t_rut : Nat → Nat → Int64) (t_ris : Nat → Int64) (a1 : Int32) (a2 : Int32) (G : Nat → Nat → (Nat → Int64) → Prop) (Q : Int64 → Prop) : Prop := q6_isKind a1 (fun r1 => ((r1 = (0 : Int32) ∨ a2 < (0 : Int32) ∨ ¬ a2 ≤ (1 : Int32)) → Q (-2 : Int64)) ∧ (¬ (r1 = (0 : Int32) ∨ a2 < (0 : Int32) ∨ ¬ a2 ≤ (1 : Int32)) → vp_in ((a1 * (19 : Int32)) + h_size) 152 ∧ (h_tal ((a1 * (19 : Int32)) + h_size).toNatClampNeg = none → q4_init t_fac t_der t_rec t_rut t_ris a1 h_size (fun yn y => G ((a1 * (19 : Int32)) + h_size).toNatClampNeg yn y)) ∧ (∀ (yn : Nat) (y : Nat → Int64), G ((a1 * (19 : Int32)) + h_size).toNatClampNeg yn y → q4_sumOfNumbers yn y (fun r2 => q3_ordersOf t_fac h_size (fun r3 => q6_commonDivisor r2 r3 (fun r4 => q6_quotient (if a2 = (0 : Int32) then r2 else r3) r4 Q))))))
set_option maxHeartbeats 8000000 in
set_option maxRecDepth 100000 in
theorem c6_mean (l : Launch) (dC : Nat → ClassId) (dI : Nat → Nat → Nat) (cs : Nat → ClassId) (ah : Nat → Nat) (sh : Nat → Nat → Nat) (al : Nat → Nat) (bx : Nat → Nat) (aw : Nat → Nat) (ac : Nat → Nat) (at_ : Nat → Nat) (rr : Nat → Nat) (ru : Nat → Nat) (tl : va_W) (sz : Nat) (h_size : Int32) (h_opened : Int32) (h_tal : Nat → Option Nat) (s0_row : Nat → Int32) (s0_made : Nat → Int32) (s0_size : Int32) (s1_row : Nat → Int32) (s1_made : Nat → Int32) (s1_size : Int32) (s2_row : Nat → Int32) (s2_made : Nat → Int32) (s2_size : Int32) (s3_row : Nat → Int32) (s3_made : Nat → Int32) (s3_size : Int32) (l_len : Nat → Int32) (l_ways : Nat → Int64) (l_box : Nat → Nat → Int32) (w_used : Nat → Int32) (w_kind : Int32) (w_size : Int32) (w_left : Int32) (w_last : Int32) (w_top : Int32) (w_wanted : Int32) (c_row : Nat → Int32) (c_made : Nat → Int32) (c_size : Int32) (t_fac : Nat → Int64) (t_der : Nat → Int64) (t_rec : Nat → Nat → Int64) (t_rut : Nat → Nat → Int64) (t_ris : Nat → Int64) (a1 : Int32) (a2 : Int32) {G : Nat → Nat → (Nat → Int64) → Prop} (hT : TL cs at_ tl h_tal G) {Q : Int64 → Prop} (hq : q6_mean h_size h_tal t_fac t_der t_rec t_rut t_ris a1 a2 G Q) : Met l yX6_mean (.code yX6_mean cX6_mean 7 (some .long) :: gt) ({ frames := 6, cells := 4, slots := 234, locals := 144 } : Room) (va_Pc [.ref (ah 0), .int a1, .int a2] (Pw (dC, dI) (KA cs) (wX6 cs ah sh al bx aw ac at_ rr ru tl h_size h_opened h_tal s0_row s0_made s0_size s1_row s1_made s1_size s2_row s2_made s2_size s3_row s3_made s3_size l_len l_ways l_box w_used w_kind w_size w_left w_last w_top w_wanted c_row c_made c_size t_fac t_der t_rec t_rut t_ris) sz)) (va_Ql (fun (r : Int64) (u : (Nat → Option Nat) × va_W) => Q r ∧ TL cs at_ u.2 u.1 G) (Bw (dC, dI) (KA cs) (va_A (wX6 cs ah sh al bx aw ac at_ rr ru tl h_size h_opened h_tal s0_row s0_made s0_size s1_row s1_made s1_size s2_row s2_made s2_size s3_row s3_made s3_size l_len l_ways l_box w_used w_kind w_size w_left w_last w_top w_wanted c_row c_made c_size t_fac t_der t_rec t_rut t_ris) sz) (fun u : (Nat → Option Nat) × va_W => (wX6 cs ah sh al bx aw ac at_ rr ru u.2 h_size h_opened u.1 s0_row s0_made s0_size s1_row s1_made s1_size s2_row s2_made s2_size s3_row s3_made s3_size l_len l_ways l_box w_used w_kind w_size w_left w_last w_top w_wanted c_row c_made c_size t_fac t_der t_rec t_rut t_ris))) (va_A (wX6 cs ah sh al bx aw ac at_ rr ru tl h_size h_opened h_tal s0_row s0_made s0_size s1_row s1_made s1_size s2_row s2_made s2_size s3_row s3_made s3_size l_len l_ways l_box w_used w_kind w_size w_left w_last w_top w_wanted c_row c_made c_size t_fac t_der t_rec t_rut t_ris) sz)) 4 234 (va_A (wX6 cs ah sh al bx aw ac at_ rr ru tl h_size h_opened h_tal s0_row s0_made s0_size s1_row s1_made s1_size s2_row s2_made s2_size s3_row s3_made s3_size l_len l_ways l_box w_used w_kind w_size w_left w_last w_top w_wanted c_row c_made c_size t_fac t_der t_rec t_rut t_ris) sz) := by
  refine Met.ofW (cc := cX6_mean) (maxL := 7) (ret := (some .long)) (by decide) rfl ?_
  intro p e s m args below meth c s₁ B hml hv
  obtain ⟨rfl, hsz, hP, hK, hD0, hN⟩ := hv
  have hx := B.exec
  have hb := B.bytes
  have hr := B.returns
  have hts0 := atoms_spec (ws := (.code yX6_mean cX6_mean 7 (some .long) :: gt)) B.pre
  have hts : ∀ w ∈ gt, w.before _ s = true := fun w h => hts0 w (List.mem_cons_of_mem _ h)
  have hown : s.vm.findClass RX6 = some m.cls := findClass_of_methodNamed B.named
  have hlocks := B.notSynchronized
  subst hsz
  have hD := hD0.self (sz := s.heap.size)
  generalize hAe : va_A (wX6 cs ah sh al bx aw ac at_ rr ru tl h_size h_opened h_tal s0_row s0_made s0_size s1_row s1_made s1_size s2_row s2_made s2_size s3_row s3_made s3_size l_len l_ways l_box w_used w_kind w_size w_left w_last w_top w_wanted c_row c_made c_size t_fac t_der t_rec t_rut t_ris) s.heap.size = A at hD ⊢
  have hA : ∀ q : Nat, s.heap.size ≤ q → A q := fun q h => by rw [← hAe]; exact Or.inr h
  have hS : va_S A s.heap s.heap [] := va_S.rf
  have hl := lv_entry ([.ref (ah 0), .int a1, .int a2]) (n := 7) (Nat.le_of_ble_eq_true rfl)
  rw [lg_entry_eq]
  generalize (lg_sl ([.ref (ah 0), .int a1, .int a2]) ++ List.replicate (7 - (lg_sl ([.ref (ah 0), .int a1, .int a2])).length) Slot.unset).toArray = ls at hl ⊢
  have hl : lv_has ls 7 [(0, .ref (ah 0)), (1, .int a1), (2, .int a2)] := hl
  unfold q6_mean at hq
  refine lv_iload_n hx hb dX6_mean_0 rfl (lv_at hl 1 rfl) ?_
  refine roi (runS ⟨hx, hb, hml, hown, hts⟩ ws_X6_isKind ml_X6_82 (c6_isKind l dC dI cs a1 hq) ⟨⟨rfl, rfl⟩, by decide, by decide⟩ (preR va_P_nil hK hN) hN rfl hl.1 rfl (Nat.le_of_ble_eq_true rfl) dX6_mean_1 ⟨(Nat.le_of_ble_eq_true rfl), (Nat.le_of_ble_eq_true rfl)⟩) (fun r1 hq => ?_)
  refine lv_if_eq (tgt := 16) hx hb dX6_mean_4 (by decide) (fun c1 => ?_) (fun c1 => ?_)
  · have hq := hq.1 (Or.inl c1)
    refine lv_ldc2 (v := (-2 : Int64)) hx hb hown (hts _ kl_X6_96) dX6_mean_16 ?_
    refine W.widen (k := 4) (n := 234) (by decide) (by decide) ?_
    exact W.lret (v := (-2 : Int64)) hx hb hr (fun t ht hW => ⟨⟨(-2 : Int64), (h_tal, tl), rfl, ⟨hq, hT⟩, Bw_mk (by rw [ht]; exact hP) (va_K.moved hW.alike hK) hD⟩, hS.F ht⟩) hS.2.2 dX6_mean_19
  refine lv_iload_n hx hb dX6_mean_7 rfl (lv_at hl 2 rfl) ?_
  refine lv_if_lt (tgt := 16) hx hb dX6_mean_8 (by decide) (fun c2 => ?_) (fun c2 => ?_)
  · have hq := hq.1 (Or.inr (Or.inl c2))
    refine lv_ldc2 (v := (-2 : Int64)) hx hb hown (hts _ kl_X6_96) dX6_mean_16 ?_
    refine W.widen (k := 4) (n := 234) (by decide) (by decide) ?_
    exact W.lret (v := (-2 : Int64)) hx hb hr (fun t ht hW => ⟨⟨(-2 : Int64), (h_tal, tl), rfl, ⟨hq, hT⟩, Bw_mk (by rw [ht]; exact hP) (va_K.moved hW.alike hK) hD⟩, hS.F ht⟩) hS.2.2 dX6_mean_19
  refine lv_iload_n hx hb dX6_mean_11 rfl (lv_at hl 2 rfl) ?_
  refine lv_iconst (v := (1 : Int32)) hx hb dX6_mean_12 (by decide) ?_
  refine lv_icmp_le (tgt := 20) hx hb dX6_mean_13 (by decide) (fun c3 => ?_) (fun c3 => ?_)
  · obtain ⟨hi, hq, hq2⟩ := hq.2 (fun h => h.elim c1 (fun h => h.elim c2 (fun h => h c3)))
    refine lv_aload_n hx hb dX6_mean_20 rfl (lv_at hl 0 rfl) ?_
    refine lv_iload_n hx hb dX6_mean_21 rfl (lv_at hl 1 rfl) ?_
    refine swr (runV ⟨hx, hb, hml, hown, hts⟩ wf_X6_tallyOf ml_X6_88 (c6_tallyOf l dC dI cs ah sh al bx aw ac at_ rr ru tl _ h_size h_opened h_tal s0_row s0_made s0_size s1_row s1_made s1_size s2_row s2_made s2_size s3_row s3_made s3_size l_len l_ways l_box w_used w_kind w_size w_left w_last w_top w_wanted c_row c_made c_size t_fac t_der t_rec t_rut t_ris a1 hT hi hq) ⟨⟨rfl, rfl⟩, by decide, by decide⟩ (preW hP hK hN hD) hK hP rfl 0 rfl rfl hl.1 rfl (Nat.le_of_ble_eq_true rfl) dX6_mean_22 ⟨(Nat.le_of_ble_eq_true rfl), (Nat.le_of_ble_eq_true rfl)⟩) hD hS hA (fun u H locs hw hP hD hS => ?_)
    obtain ⟨tal1, tl1, q1⟩ := u
    obtain ⟨hT, hw⟩ := hw
    have hT : TL cs at_ tl1 tal1 G := hT
    have hw : tal1 ((a1 * (19 : Int32)) + h_size).toNatClampNeg = some q1 := hw
    have hP : va_P (dC, dI) vwCl (wX6 cs ah sh al bx aw ac at_ rr ru tl1 h_size h_opened tal1 s0_row s0_made s0_size s1_row s1_made s1_size s2_row s2_made s2_size s3_row s3_made s3_size l_len l_ways l_box w_used w_kind w_size w_left w_last w_top w_wanted c_row c_made c_size t_fac t_der t_rec t_rut t_ris) H := hP
    have hD : va_D A (wX6 cs ah sh al bx aw ac at_ rr ru tl1 h_size h_opened tal1 s0_row s0_made s0_size s1_row s1_made s1_size s2_row s2_made s2_size s3_row s3_made s3_size l_len l_ways l_box w_used w_kind w_size w_left w_last w_top w_wanted c_row c_made c_size t_fac t_der t_rec t_rut t_ris) := hD
    obtain ⟨ax, yn, y_size, y_ord, h0, hin9, hG⟩ := hT _ _ hw
    subst h0
    have hq := hq2 yn y_ord hG
    have hP9 : va_P (dC, dI) vwCl (wX4 cs ax at_ yn y_size y_ord) H := va_P_in hP (fun x hx => wX6_in x (hin9 x hx))
    have hO9 : va_P (dC, dI) vwCl (wX3 cs at_ rr ru t_fac t_der t_rec t_rut t_ris) H := va_P_in hP wX6_x3
    refine rol (runV ⟨hx, hb, hml, hown, hts⟩ wf_X4_sumOfNumbers ml_X6_98 (c4_sumOfNumbers l dC dI cs ax at_ rr ru yn y_size y_ord t_fac t_der t_rec t_rut t_ris hq) ⟨⟨rfl, rfl⟩, by decide, by decide⟩ (preR (va_P_app hP9 hO9) hK hN) hK hP9 rfl 0 rfl rfl hl.1 rfl (Nat.le_of_ble_eq_true rfl) dX6_mean_25 ⟨(Nat.le_of_ble_eq_true rfl), (Nat.le_of_ble_eq_true rfl)⟩) (fun r2 hq => ?_)
    refine lv_lstore_n (lv' := [(3, .long r2), (0, .ref (ah 0)), (1, .int a1), (2, .int a2)]) hx hb dX6_mean_28 rfl hl (by decide) rfl (fun ls hl => ?_)
    refine lv_aload_n hx hb dX6_mean_29 rfl (lv_at hl 1 rfl) ?_
    refine va_get (D := (dC, dI)) (ci := 6) (v := .ref (at_ 0)) (C := RX6) (T := TX6) (N := 8) hx hb hts uwX6 hown hK hP 0 rfl rfl 3 (by decide) (hts _ fl_X6_30) (fun _ h9 => h9) rfl dX6_mean_30 ?_
    refine lv_aload_n hx hb dX6_mean_33 rfl (lv_at hl 1 rfl) ?_
    refine va_get (D := (dC, dI)) (ci := 6) (v := .int h_size) (C := RX6) (T := TX6) (N := 8) hx hb hts uwX6 hown hK hP 0 rfl rfl 6 (by decide) (hts _ fl_X6_102) (fun _ h9 => h9) rfl dX6_mean_34 ?_
    refine rol (runV ⟨hx, hb, hml, hown, hts⟩ wf_X3_ordersOf ml_X6_106 (c3_ordersOf l dC dI cs at_ rr ru t_fac t_der t_rec t_rut t_ris h_size hq) ⟨⟨rfl, rfl⟩, by decide, by decide⟩ (preR hO9 hK hN) hK hO9 rfl 0 rfl rfl hl.1 rfl (Nat.le_of_ble_eq_true rfl) dX6_mean_37 ⟨(Nat.le_of_ble_eq_true rfl), (Nat.le_of_ble_eq_true rfl)⟩) (fun r3 hq => ?_)
    refine lv_lstore (lv' := [(5, .long r3), (3, .long r2), (0, .ref (ah 0)), (1, .int a1), (2, .int a2)]) hx hb dX6_mean_40 hl (by decide) rfl (fun ls hl => ?_)
    refine lv_iload_n hx hb dX6_mean_42 rfl (lv_at hl 4 rfl) ?_
    refine lv_if_ne (tgt := 50) hx hb dX6_mean_43 (by decide) (fun c4 => ?_) (fun c4 => ?_)
    · refine lv_lload hx hb dX6_mean_50 (lv_at hl 0 rfl) ?_
      refine lv_lload_n hx hb dX6_mean_52 rfl (lv_at hl 1 rfl) ?_
      refine lv_lload hx hb dX6_mean_53 (lv_at hl 0 rfl) ?_
      refine rol (runS ⟨hx, hb, hml, hown, hts⟩ ws_X6_commonDivisor ml_X6_109 (c6_commonDivisor l dC dI cs r2 r3 hq) ⟨⟨rfl, rfl⟩, by decide, by decide⟩ (preR va_P_nil hK hN) hN rfl hl.1 rfl (Nat.le_of_ble_eq_true rfl) dX6_mean_55 ⟨(Nat.le_of_ble_eq_true rfl), (Nat.le_of_ble_eq_true rfl)⟩) (fun r4 hq => ?_)
      rw [if_neg c4] at hq
      refine rol (runS ⟨hx, hb, hml, hown, hts⟩ ws_X6_quotient ml_X6_113 (c6_quotient l dC dI cs r3 r4 hq) ⟨⟨rfl, rfl⟩, by decide, by decide⟩ (preR va_P_nil hK hN) hN rfl hl.1 rfl (Nat.le_of_ble_eq_true rfl) dX6_mean_58 ⟨(Nat.le_of_ble_eq_true rfl), (Nat.le_of_ble_eq_true rfl)⟩) (fun r5 hq => ?_)
      exact W.lret (v := r5) hx hb hr (fun t ht hW => ⟨⟨r5, (tal1, tl1), rfl, ⟨hq, hT⟩, Bw_mk (by rw [ht]; exact hP) (va_K.moved hW.alike hK) hD⟩, hS.F ht⟩) hS.2.2 dX6_mean_61
    · refine lv_lload_n hx hb dX6_mean_46 rfl (lv_at hl 1 rfl) ?_
      refine lv_goto (tgt := 52) hx hb dX6_mean_47 (by decide) ?_
      refine lv_lload_n hx hb dX6_mean_52 rfl (lv_at hl 1 rfl) ?_
      refine lv_lload hx hb dX6_mean_53 (lv_at hl 0 rfl) ?_
      refine rol (runS ⟨hx, hb, hml, hown, hts⟩ ws_X6_commonDivisor ml_X6_109 (c6_commonDivisor l dC dI cs r2 r3 hq) ⟨⟨rfl, rfl⟩, by decide, by decide⟩ (preR va_P_nil hK hN) hN rfl hl.1 rfl (Nat.le_of_ble_eq_true rfl) dX6_mean_55 ⟨(Nat.le_of_ble_eq_true rfl), (Nat.le_of_ble_eq_true rfl)⟩) (fun r4 hq => ?_)
      rw [if_pos c4] at hq
      refine rol (runS ⟨hx, hb, hml, hown, hts⟩ ws_X6_quotient ml_X6_113 (c6_quotient l dC dI cs r2 r4 hq) ⟨⟨rfl, rfl⟩, by decide, by decide⟩ (preR va_P_nil hK hN) hN rfl hl.1 rfl (Nat.le_of_ble_eq_true rfl) dX6_mean_58 ⟨(Nat.le_of_ble_eq_true rfl), (Nat.le_of_ble_eq_true rfl)⟩) (fun r5 hq => ?_)
      exact W.lret (v := r5) hx hb hr (fun t ht hW => ⟨⟨r5, (tal1, tl1), rfl, ⟨hq, hT⟩, Bw_mk (by rw [ht]; exact hP) (va_K.moved hW.alike hK) hD⟩, hS.F ht⟩) hS.2.2 dX6_mean_61
  · have hq := hq.1 (Or.inr (Or.inr c3))
    refine lv_ldc2 (v := (-2 : Int64)) hx hb hown (hts _ kl_X6_96) dX6_mean_16 ?_
    refine W.widen (k := 4) (n := 234) (by decide) (by decide) ?_
    exact W.lret (v := (-2 : Int64)) hx hb hr (fun t ht hW => ⟨⟨(-2 : Int64), (h_tal, tl), rfl, ⟨hq, hT⟩, Bw_mk (by rw [ht]; exact hP) (va_K.moved hW.alike hK) hD⟩, hS.F ht⟩) hS.2.2 dX6_mean_19
