/-! going along a row: the numbers behind it -/
def kI (kd : Nat) : Int32 := if kd = 1 then 1 else if kd = 2 then 2 else -1
def WV (kd m g w : Nat) : Nat := if kd = 1 then RW1 m g w else RIS m (m - g) w
def wt (kd m g w j : Nat) : Nat := if kd = 1 then (if m ≤ g + j then (if w = 0 then 0 else RW1 (m - 1) (m - 1 - j) (w - 1)) else RW1 (m - 1) g w) else if kd = 2 then (if m ≤ g + j then (if w = 0 then 0 else RIS (m - 1) j (w - 1)) else RIS (m - 1) j w) else FAC (m - 1)
def ng (kd m g j : Nat) : Nat := if kd = 1 then (if m ≤ g + j then m - 1 - j else g) else m - 1 - j
def nw (m g w j : Nat) : Nat := if m ≤ g + j then w - 1 else w
def wtS (kd m g w : Nat) : Nat → Nat
  | 0 => 0
  | j + 1 => wtS kd m g w j + wt kd m g w j
def TW (kd m g w : Nat) : Nat := if kd = 3 then FAC m else WV kd m g w
theorem WV_1 : ∀ m, m < 18 → ∀ g, g < m + 2 → ∀ w, w < 20 → WV 1 (m + 1) g w = wtS 1 (m + 1) g w (m + 1) := by decide +kernel
theorem WV_2 : ∀ m, m < 18 → ∀ g, g < m + 2 → ∀ w, w < 20 → WV 2 (m + 1) g w = wtS 2 (m + 1) g w (m + 1) := by decide +kernel
theorem RW1_lt : ∀ r, r < 19 → ∀ a, a < r + 1 → ∀ v, v < 20 → RW1 r a v < 2 ^ 62 := by decide +kernel
theorem RIS_lt : ∀ r, r < 19 → ∀ b, b < r + 1 → ∀ v, v < r + 1 → RIS r b v < 2 ^ 62 := by decide +kernel
theorem RIS_lt' {r b v : Nat} (hr : r < 19) : RIS r b v < 2 ^ 62 := by
  by_cases h : r < b ∨ r < v
  · rw [RIS_z hr h]; decide
  · exact RIS_lt r hr b (by omega) v (by omega)
theorem RW1_lt' {r a v : Nat} (hr : r < 19) (hv : v < 20) : RW1 r a v < 2 ^ 62 := by
  by_cases h : a < r + 1
  · exact RW1_lt r hr a h v hv
  · rw [show RW1 r a v = 0 from if_neg (by omega)]; decide
theorem wtS_3 (m g w : Nat) : ∀ j, wtS 3 m g w j = j * FAC (m - 1) := by
  intro j
  induction j with
  | zero => simp [wtS]
  | succ j ih => show wtS 3 m g w j + FAC (m - 1) = _; rw [ih, Nat.succ_mul]
theorem TW_sum {kd m g w : Nat} (hk : kd = 1 ∨ kd = 2 ∨ kd = 3) (h1 : 1 ≤ m) (hm : m < 19) (hg : g ≤ m) (hw : w < 20) : TW kd m g w = wtS kd m g w m := by
  obtain ⟨r, rfl⟩ : ∃ r, m = r + 1 := ⟨m - 1, by omega⟩
  rcases hk with rfl | rfl | rfl
  · exact WV_1 r (by omega) g (by omega) w hw
  · exact WV_2 r (by omega) g (by omega) w hw
  · rw [wtS_3, show r + 1 - 1 = r from rfl]
    show FAC (r + 1) = _
    rw [FAC_s r (by omega), Nat.mul_comm]
theorem wt_next {kd m g w j : Nat} (hk : kd = 1 ∨ kd = 2 ∨ kd = 3) (hj : j < m) (hw : kd ≠ 3 → m ≤ g + j → 1 ≤ w) : wt kd m g w j = TW kd (m - 1) (ng kd m g j) (nw m g w j) := by
  rcases hk with rfl | rfl | rfl
  · unfold wt TW WV ng nw
    simp only [if_true, show ¬ (1 : Nat) = 3 by decide, if_false]
    by_cases h : m ≤ g + j
    · have := hw (by decide) h
      rw [if_pos h, if_pos h, if_pos h, if_neg (by omega)]
    · rw [if_neg h, if_neg h, if_neg h]
  · unfold wt TW WV ng nw
    simp only [show ¬ (2 : Nat) = 3 by decide, show ¬ (2 : Nat) = 1 by decide, if_true, if_false]
    rw [show m - 1 - (m - 1 - j) = j by omega]
    by_cases h : m ≤ g + j
    · have := hw (by decide) h
      rw [if_pos h, if_pos h, if_neg (by omega)]
    · rw [if_neg h, if_neg h]
  · rfl
theorem wt_lt {kd m g w j : Nat} (hm : m < 20) (hw : w < 20) : wt kd m g w j < 2 ^ 62 := by
  unfold wt
  repeat' split
  all_goals first | decide | exact RW1_lt' (by omega) (by omega) | exact RIS_lt' (by omega) | (have := (FAC_lt (m - 1) (by omega)).2; omega)
theorem wtS_mono (kd m g w : Nat) : ∀ b a, a ≤ b → wtS kd m g w a ≤ wtS kd m g w b := by
  intro b
  induction b with
  | zero => intro a h; rw [show a = 0 by omega]; exact Nat.le_refl _
  | succ b ih =>
    intro a h
    by_cases e : a = b + 1
    · rw [e]; exact Nat.le_refl _
    · have := ih a (by omega)
      show _ ≤ wtS kd m g w b + _
      omega
/-! things used and not -/
def rk (U : Nat → Bool) (x : Nat) : Nat := fb_ct (fun y => !U y) x
def Us (U : Nat → Bool) (x : Nat) : Nat → Bool := fun y => if y = x then true else U y
theorem rk_s (U : Nat → Bool) (x : Nat) : rk U (x + 1) = rk U x + (if U x = true then 0 else 1) := by
  unfold rk
  rw [fb_ct_succ]
  cases U x <;> rfl
theorem rk_mono (U : Nat → Bool) {a b : Nat} (h : a ≤ b) : rk U a ≤ rk U b := fb_ct_mono _ h
theorem rk_lt {U : Nat → Bool} {x z : Nat} (hx : U x = false) (h : x < z) : rk U x < rk U z := by
  have h1 := rk_mono U (show x + 1 ≤ z from h)
  rw [rk_s, hx, if_neg (by decide)] at h1
  omega
theorem rk_Us_lo {U : Nat → Bool} {x : Nat} : ∀ z, z ≤ x → rk (Us U x) z = rk U z := by
  intro z
  induction z with
  | zero => intro _; rfl
  | succ z ih => intro h; rw [rk_s, rk_s, ih (by omega), show Us U x z = U z from if_neg (by omega)]
theorem rk_Us_hi {U : Nat → Bool} {x : Nat} (hx : U x = false) : ∀ z, x < z → rk (Us U x) z + 1 = rk U z := by
  intro z
  induction z with
  | zero => intro h; omega
  | succ z ih =>
    intro h
    rw [rk_s, rk_s]
    by_cases e : z = x
    · subst e
      rw [rk_Us_lo z (Nat.le_refl _), show Us U z z = true from if_pos rfl, hx, if_pos rfl, if_neg (by decide)]
    · have := ih (by omega)
      rw [show Us U x z = U z from if_neg e]
      omega
theorem rk_free {U : Nat → Bool} {t : Nat} (h : ∀ y, t ≤ y → U y = false) : ∀ z, t ≤ z → rk U z = rk U t + (z - t) := by
  intro z
  induction z with
  | zero => intro hz; rw [show t = 0 by omega]; rfl
  | succ z ih =>
    intro hz
    by_cases e : t = z + 1
    · rw [e]; omega
    · rw [rk_s, ih (by omega), h z (by omega), if_neg (by decide)]; omega
/-- the walk's numbers: used, top + 1, last, greater, wanted -/
abbrev WSt : Type := (Nat → Bool) × Nat × Nat × Nat × Nat
def nxS (kd n i : Nat) (s : WSt) (x : Nat) : WSt := (Us s.1 x, max s.2.1 (x + 1), x, ng kd (n - i) s.2.2.2.1 (rk s.1 x), nw (n - i) s.2.2.2.1 s.2.2.2.2 (rk s.1 x))
def WInv (kd n i : Nat) (s : WSt) : Prop := i ≤ n ∧ rk s.1 n = n - i ∧ (∀ y, n ≤ y → s.1 y = false) ∧ s.2.1 ≤ n ∧ (kd = 1 → (∀ y, s.2.1 ≤ y → s.1 y = false) ∧ s.2.2.2.1 = n - s.2.1) ∧ (kd = 2 → (i = 0 ∧ s.2.2.1 = n ∧ s.2.2.2.1 = 0) ∨ (0 < i ∧ s.2.2.1 < n ∧ s.1 s.2.2.1 = true ∧ s.2.2.2.1 = n - i - rk s.1 s.2.2.1)) ∧ s.2.2.2.2 ≤ n ∧ s.2.2.1 ≤ n
def s0S (kd n w : Nat) : WSt := (fun _ => false, 0, n, if kd = 1 then n else 0, w)
theorem rk_0 : ∀ z, rk (fun _ => false) z = z := by
  intro z
  induction z with
  | zero => rfl
  | succ z ih => rw [rk_s, ih]; rfl
theorem WInv_0 {kd n w : Nat} (hw : w ≤ n) : WInv kd n 0 (s0S kd n w) := ⟨Nat.zero_le _, rk_0 n, fun _ _ => rfl, Nat.zero_le _, fun e => ⟨fun _ _ => rfl, by show (if kd = 1 then n else 0) = _; rw [if_pos e]; rfl⟩, fun e => Or.inl ⟨rfl, rfl, by show (if kd = 1 then n else 0) = 0; rw [if_neg (by omega)]⟩, hw, Nat.le_refl _⟩
/-- is the next one counted: by its rank, and by what stands before it -/
theorem is_1 {n i x : Nat} {s : WSt} (h : WInv 1 n i s) (hx : x < n) (hu : s.1 x = false) : (n - i ≤ s.2.2.2.1 + rk s.1 x ↔ s.2.1 ≤ x) ∧ s.2.2.2.1 ≤ n - i ∧ (s.2.1 ≤ x → n - i - 1 - rk s.1 x = n - (x + 1)) := by
  obtain ⟨hi, hr, hb, ht, h1, -, -⟩ := h
  obtain ⟨hf, hg⟩ := h1 rfl
  have e := rk_free hf n ht
  refine ⟨⟨fun g => ?_, fun g => ?_⟩, by omega, fun g => ?_⟩
  · rcases Nat.lt_or_ge x s.2.1 with a | a
    · have := rk_lt hu a
      omega
    · exact a
  · have := rk_mono s.1 g
    omega
  · have e2 := rk_free (t := x) (fun y hy => hf y (by omega)) n (by omega)
    omega
theorem is_2 {n i x : Nat} {s : WSt} (h : WInv 2 n i s) (hx : x < n) (hu : s.1 x = false) : (n - i ≤ s.2.2.2.1 + rk s.1 x ↔ s.2.2.1 < x) ∧ s.2.2.2.1 ≤ n - i := by
  obtain ⟨hi, hr, hb, ht, -, h2, -⟩ := h
  have hlt := rk_lt hu hx
  rcases h2 rfl with ⟨a, b, c⟩ | ⟨a, b, c, d⟩
  · refine ⟨⟨fun g => by omega, fun g => by omega⟩, by omega⟩
  · have hle := rk_mono s.1 (show s.2.2.1 ≤ n by omega)
    refine ⟨⟨fun g => ?_, fun g => ?_⟩, by omega⟩
    · rcases Nat.lt_trichotomy x s.2.2.1 with e | e | e
      · have := rk_lt hu e; omega
      · rw [e, c] at hu; cases hu
      · exact e
    · have := rk_mono s.1 (Nat.le_of_lt g)
      omega
theorem WInv_s {kd n i x : Nat} {s : WSt} (hk : kd = 1 ∨ kd = 2 ∨ kd = 3) (h : WInv kd n i s) (hx : x < n) (hu : s.1 x = false) : WInv kd n (i + 1) (nxS kd n i s x) := by
  have h' := h
  obtain ⟨hi, hr, hb, ht, h1, h2, hw, hl⟩ := h
  have hlt := rk_lt hu hx
  have hn := rk_Us_hi hu n hx
  refine ⟨by omega, by show rk (Us s.1 x) n = _; omega, fun y hy => ?_, Nat.max_le.mpr ⟨ht, hx⟩, fun e => ?_, fun e => Or.inr ⟨by omega, hx, if_pos rfl, ?_⟩, ?_, Nat.le_of_lt hx⟩
  · show Us s.1 x y = false
    rw [show Us s.1 x y = s.1 y from if_neg (by omega)]; exact hb y hy
  · subst e
    obtain ⟨a, b, c⟩ := is_1 h' hx hu
    obtain ⟨hf, hg⟩ := h1 rfl
    refine ⟨fun y hy => ?_, ?_⟩
    · have hy : max s.2.1 (x + 1) ≤ y := hy
      show Us s.1 x y = false
      rw [show Us s.1 x y = s.1 y from if_neg (by omega)]; exact hf y (by omega)
    · show ng 1 (n - i) s.2.2.2.1 (rk s.1 x) = n - max s.2.1 (x + 1)
      unfold ng
      rw [if_pos rfl]
      by_cases g : s.2.1 ≤ x
      · rw [if_pos (a.mpr g), Nat.max_eq_right (by omega)]; exact c g
      · rw [if_neg (fun z => g (a.mp z)), Nat.max_eq_left (by omega)]; exact hg
  · subst e
    show ng 2 (n - i) s.2.2.2.1 (rk s.1 x) = n - (i + 1) - rk (Us s.1 x) x
    unfold ng
    rw [if_neg (by decide), rk_Us_lo x (Nat.le_refl _)]
    omega
  · show nw _ _ _ _ ≤ n
    unfold nw
    split <;> omega
/-! the class Walk -/
def CW (kd n i : Nat) (s : WSt) (used : Nat → Int32) (left last top wanted : Int32) : Prop := (∀ y, y < 18 → used y = bI (s.1 y)) ∧ left = nI (n - i) ∧ last = nI s.2.2.1 ∧ top = nI s.2.1 - 1 ∧ (kd ≠ 3 → wanted = nI s.2.2.2.2)
theorem top_le {x t : Nat} (hx : x < 2 ^ 30) (ht : t < 2 ^ 30) : nI x ≤ nI t - (1 : Int32) ↔ x < t := by
  by_cases h : t = 0
  · subst h
    rw [show nI 0 - (1 : Int32) = -1 from rfl]
    exact ⟨fun g => absurd g (nI_nle1 (by omega)), fun g => by omega⟩
  · rw [show nI t - (1 : Int32) = nI (t - 1) from pk_sub (b := 1) (by omega), nI_leI (by omega) (by omega)]
    omega
theorem top_mx {x t : Nat} (hx : x < 2 ^ 30) (ht : t < 2 ^ 30) : (if nI t - (1 : Int32) < nI x then nI x else nI t - (1 : Int32)) = nI (max t (x + 1)) - (1 : Int32) := by
  have e : nI t - (1 : Int32) < nI x ↔ t ≤ x := by
    have := top_le hx ht
    rw [Int32.le_iff_toInt_le] at this
    rw [Int32.lt_iff_toInt_lt]
    omega
  by_cases h : t ≤ x
  · rw [if_pos (e.mpr h), Nat.max_eq_right (by omega)]
    exact (nI_pred x).symm
  · rw [if_neg (fun g => h (e.mp g)), Nat.max_eq_left (by omega)]
theorem kI_1 : kI 1 = 1 := rfl
theorem kI_2 : kI 2 = 2 := rfl
theorem kI_3 : kI 3 = -1 := rfl
/-- what is wanted behind a thing -/
theorem c_after {kd n i x : Nat} {s : WSt} {last top wanted : Int32} {Q : Int32 → Prop} (hn : n ≤ 18) (hk : kd = 1 ∨ kd = 2 ∨ kd = 3) (h : WInv kd n i s) (hx : x < n) (hu : s.1 x = false) (hl : last = nI s.2.2.1) (ht : top = nI s.2.1 - 1) (hQ : Q (if kd ≠ 3 ∧ n - i ≤ s.2.2.2.1 + rk s.1 x then wanted - 1 else wanted)) : q5_wantedAfter (kI kd) last top wanted (nI x) Q := by
  have h18 := h.2.2.2.1
  have hla := h.2.2.2.2.2.2.2
  unfold q5_wantedAfter
  rcases hk with rfl | rfl | rfl
  · refine ⟨fun g => absurd rfl g, fun _ => ?_⟩
    have e := (is_1 h hx hu).1
    rw [ht, top_le (by omega) (by omega)]
    refine ⟨fun g => ?_, fun g => ?_⟩
    · unfold q5_wantedAfter_45
      rw [if_neg (fun z => by have := e.mp z.2; omega)] at hQ
      exact z0 hQ
    · unfold q5_wantedAfter_45
      rw [if_pos ⟨by decide, e.mpr (by omega)⟩] at hQ
      exact z1 hQ
  · refine ⟨fun _ => ⟨fun g => absurd rfl g, fun _ => ?_⟩, fun g => absurd g (by decide)⟩
    have e := (is_2 h hx hu).1
    rw [hl]
    refine pk_le x s.2.2.1 (fun g => ?_) (fun g => ?_)
    · unfold q5_wantedAfter_45
      rw [if_neg (fun z => by have := e.mp z.2; omega)] at hQ
      exact z0 hQ
    · unfold q5_wantedAfter_45
      rw [if_pos ⟨by decide, e.mpr g⟩] at hQ
      exact z1 hQ
  · refine ⟨fun _ => ⟨fun _ => ?_, fun g => absurd g (by decide)⟩, fun g => absurd g (by decide)⟩
    unfold q5_wantedAfter_45
    rw [if_neg (fun z => z.1 rfl)] at hQ
    exact z0 hQ
theorem c_waysWith {kd n i x : Nat} {s : WSt} {used : Nat → Int32} {left last top wanted : Int32} {t_fac t_der : Nat → Int64} {t_rec t_rut : Nat → Nat → Int64} {t_ris : Nat → Int64} {Q : Int64 → Prop} (ht : TabOK t_fac t_der t_rec t_rut t_ris) (hn : n ≤ 18) (hk : kd = 1 ∨ kd = 2 ∨ kd = 3) (h : WInv kd n i s) (hc : CW kd n i s used left last top wanted) (hx : x < n) (hu : s.1 x = false) (hQ : Q (lN (wt kd (n - i) s.2.2.2.1 s.2.2.2.2 (rk s.1 x)))) : q5_waysWith (kI kd) (nI n) left last top wanted t_fac t_rec t_ris (nI x) (nI (rk s.1 x)) Q := by
  obtain ⟨c1, c2, c3, c4, c5⟩ := hc
  have h18 := h.2.2.2.1
  have hw := h.2.2.2.2.2.2.1
  have hr := rk_lt hu hx
  have hrn := h.2.1
  unfold q5_waysWith
  refine c_after hn hk h hx hu c3 c4 ?_
  rw [c2, c4, top_mx (by omega) (by omega), show nI (n - i) - (1 : Int32) = nI (n - i - 1) from pk_sub (b := 1) (by omega)]
  have ea : nI n - (1 : Int32) - (nI (max s.2.1 (x + 1)) - (1 : Int32)) = nI (n - max s.2.1 (x + 1)) := by
    rw [show nI n - (1 : Int32) = nI (n - 1) from pk_sub (b := 1) (by omega), show nI (max s.2.1 (x + 1)) - (1 : Int32) = nI (max s.2.1 (x + 1) - 1) from pk_sub (b := 1) (by omega), pk_sub (by omega)]
    exact congrArg nI (by omega)
  rw [ea]
  unfold q5_ways
  rcases hk with rfl | rfl | rfl
  · refine ⟨fun _ => ?_, fun g => absurd rfl g⟩
    obtain ⟨e1, e2, e3⟩ := is_1 h hx hu
    have hg := (h.2.2.2.2.1 rfl).2
    rw [c5 (by decide)]
    unfold wt at hQ
    rw [if_pos rfl] at hQ
    by_cases g : s.2.1 ≤ x
    · rw [if_pos ⟨by decide, e1.mpr g⟩, Nat.max_eq_right (by omega)]
      rw [if_pos (e1.mpr g), e3 g] at hQ
      by_cases w0 : s.2.2.2.2 = 0
      · rw [if_pos w0] at hQ
        rw [w0]
        have := e3 g
        exact t_recsN (by omega) (by omega) (by decide) hQ
      · rw [if_neg w0] at hQ
        rw [show nI s.2.2.2.2 - (1 : Int32) = nI (s.2.2.2.2 - 1) from pk_sub (b := 1) (by omega)]
        exact t_recs ht.2.2.1 (by omega) (by omega) (by omega) hQ
    · rw [if_neg (fun z => g (e1.mp z.2)), Nat.max_eq_left (by omega), ← hg]
      rw [if_neg (fun z => g (e1.mp z))] at hQ
      exact t_recs ht.2.2.1 (by omega) (by omega) (by omega) hQ
  · refine ⟨fun g => absurd g (by decide), fun _ => ⟨fun _ => ?_, fun g => absurd rfl g⟩⟩
    obtain ⟨e1, e2⟩ := is_2 h hx hu
    rw [c5 (by decide)]
    unfold wt at hQ
    rw [if_neg (by decide), if_pos rfl] at hQ
    by_cases g : n - i ≤ s.2.2.2.1 + rk s.1 x
    · rw [if_pos ⟨by decide, g⟩]
      rw [if_pos g] at hQ
      exact t_risesP (by omega) (by omega) (by omega) (ht.2.2.2.2 _ (by omega)) hQ
    · rw [if_neg (fun z => g z.2)]
      rw [if_neg g] at hQ
      exact t_rises (by omega) (by omega) (by omega) (ht.2.2.2.2 _ (by omega)) hQ
  · refine ⟨fun g => absurd g (by decide), fun _ => ⟨fun g => absurd g (by decide), fun _ => ?_⟩⟩
    exact t_ordersOf ht.1 (by omega) hQ
theorem c_step {kd n i x : Nat} {s : WSt} {used : Nat → Int32} {left last top wanted : Int32} {Q : (Nat → Int32) → Int32 → Int32 → Int32 → Int32 → Prop} (hn : n ≤ 18) (hk : kd = 1 ∨ kd = 2 ∨ kd = 3) (h : WInv kd n i s) (hc : CW kd n i s used left last top wanted) (hx : x < n) (hu : s.1 x = false) (hw : kd ≠ 3 → n - i ≤ s.2.2.2.1 + rk s.1 x → 1 ≤ s.2.2.2.2) (hQ : ∀ used' left' last' top' wanted', CW kd n (i + 1) (nxS kd n i s x) used' left' last' top' wanted' → Q used' left' last' top' wanted') : q5_step (kI kd) used left last top wanted (nI x) Q := by
  obtain ⟨c1, c2, c3, c4, c5⟩ := hc
  have h18 := h.2.2.2.1
  have hr := rk_lt hu hx
  have hrn := h.2.1
  unfold q5_step
  refine c_after hn hk h hx hu c3 c4 ?_
  refine pk_lt x 0 (fun g => by omega) (fun _ => pk_le 18 x (fun g => by omega) (fun _ => ⟨pk_in x 18 (by omega), ?_⟩))
  rw [nI_clamp (by omega)]
  refine hQ _ _ _ _ _ ⟨fun y hy => ?_, ?_, rfl, ?_, fun e => ?_⟩
  · show _ = bI (if y = x then true else s.1 y)
    by_cases e : y = x
    · rw [if_pos e, e, pk_us]; rfl
    · rw [if_neg e, pk_un e]; exact c1 y hy
  · rw [c2, show nI (n - i) - (1 : Int32) = nI (n - i - 1) from pk_sub (b := 1) (by omega)]
    exact congrArg nI (by omega)
  · rw [c4, top_mx (by omega) (by omega)]; rfl
  · show _ = nI (nw (n - i) s.2.2.2.1 s.2.2.2.2 (rk s.1 x))
    unfold nw
    by_cases g : n - i ≤ s.2.2.2.1 + rk s.1 x
    · rw [if_pos ⟨e, g⟩, if_pos g, c5 e]
      exact pk_sub (b := 1) (hw e g)
    · rw [if_neg (fun z => g z.2), if_neg g]; exact c5 e
theorem c_start {kd n w : Nat} {used : Nat → Int32} {a b c d e f wanted : Int32} {Q : (Nat → Int32) → Int32 → Int32 → Int32 → Int32 → Int32 → Int32 → Prop} (hn : n ≤ 18) (hQ : ∀ used', (∀ y, y < 18 → used' y = 0) → Q used' (kI kd) (nI n) (nI n) (nI n) (-1) wanted) : q5_start used a b c d e f (kI kd) (nI n) wanted Q := by
  unfold q5_start
  rw [show (18 : Int32) = nI 18 from rfl, if_neg (nI_nlt hn (by decide))]
  have key : ∃ k, (fun k (x : Int32) (u : Nat → Int32) => q5_start_44 Q k x u (kI kd) (nI n) (nI n) (nI n) (-1) wanted) k 0 used := by
    refine up2 (fun k (x : Int32) (u : Nat → Int32) => q5_start_44 Q k x u (kI kd) (nI n) (nI n) (nI n) (-1) wanted) (fun j => nI j) (fun j => fa_fill (fun _ => 0) used j) 0 18 (Nat.zero_le _) (fun k => ?_) (fun k j _ hj ih => ?_) rfl (fa_fill_0 _ _).symm
    · unfold q5_start_44
      exact pk_le 18 18 (fun _ => hQ _ (fun y hy => fa_fill_in hy)) (fun g => by omega)
    · unfold q5_start_44
      rw [nI_1, nI_clamp (by omega), fa_fill_succ (fun _ => (0 : Int32))]
      exact pk_le 18 j (fun g => by omega) (fun _ => ⟨pk_in j 18 hj, ih⟩)
  exact key
theorem CW_0 {kd n w : Nat} {used : Nat → Int32} {wanted : Int32} (hu : ∀ y, y < 18 → used y = 0) (hw : kd ≠ 3 → wanted = nI w) : CW kd n 0 (s0S kd n w) used (nI n) (nI n) (-1) wanted := ⟨fun y hy => hu y hy, rfl, rfl, rfl, hw⟩
