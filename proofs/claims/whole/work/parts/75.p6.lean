/-! sums over all rows: by boxes and by players -/
def sumP (f : Nat → List Nat → Nat) : List Nat → Nat
  | [] => 0
  | x :: T => f x T + sumP (fun y R => f y (x :: R)) T
theorem sumP_cong {T : List Nat} : ∀ {f g : Nat → List Nat → Nat}, (∀ y R, R.length + 1 = T.length → f y R = g y R) → sumP f T = sumP g T := by
  induction T with
  | nil => intro f g _; rfl
  | cons x T ih =>
    intro f g h
    show f x T + sumP (fun y R => f y (x :: R)) T = g x T + sumP (fun y R => g y (x :: R)) T
    rw [h x T rfl, ih (fun y R hR => h y (x :: R) (by rw [List.length_cons, List.length_cons, hR]))]
theorem sumP_mul {T : List Nat} (c : Nat) : ∀ {f : Nat → List Nat → Nat}, c * sumP f T = sumP (fun y R => c * f y R) T := by
  induction T with
  | nil => intro f; rfl
  | cons x T ih =>
    intro f
    show c * (f x T + sumP (fun y R => f y (x :: R)) T) = c * f x T + sumP (fun y R => c * f y (x :: R)) T
    rw [Nat.mul_add, ih]
theorem sumP_add {T : List Nat} : ∀ {f g : Nat → List Nat → Nat}, sumP (fun y R => f y R + g y R) T = sumP f T + sumP g T := by
  induction T with
  | nil => intro f g; rfl
  | cons x T ih =>
    intro f g
    show f x T + g x T + sumP (fun y R => f y (x :: R) + g y (x :: R)) T = f x T + sumP (fun y R => f y (x :: R)) T + (g x T + sumP (fun y R => g y (x :: R)) T)
    rw [ih]; omega
theorem sumP_zero {T : List Nat} : sumP (fun _ _ => 0) T = 0 := by
  induction T with
  | nil => rfl
  | cons x T ih => show 0 + sumP (fun _ _ => 0) T = 0; rw [ih]
theorem sumP_comm {B : List Nat} : ∀ {T : List Nat} {f : Nat → List Nat → Nat → List Nat → Nat}, sumP (fun y R => sumP (fun b S => f y R b S) B) T = sumP (fun b S => sumP (fun y R => f y R b S) T) B := by
  induction B with
  | nil => intro T f; exact sumP_zero
  | cons b B ih =>
    intro T f
    show sumP (fun y R => f y R b B + sumP (fun c S => f y R c (b :: S)) B) T = sumP (fun y R => f y R b B) T + sumP (fun c S => sumP (fun y R => f y R c (b :: S)) T) B
    rw [sumP_add, ih]
def permR (M : Nat → Nat → Nat) : List Nat → List Nat → Nat
  | [], _ => 1
  | b :: B, T => sumP (fun x R => M b x * permR M B R) T
theorem permR_swap {M : Nat → Nat → Nat} : ∀ N (B T : List Nat), B.length ≤ N → B.length = T.length → permR M B T = permR (fun x b => M b x) T B := by
  intro N
  induction N with
  | zero =>
    intro B T h1 h2
    cases B with
    | nil => cases T with
      | nil => rfl
      | cons x T => cases h2
    | cons b B => rw [List.length_cons] at h1; omega
  | succ N ih =>
    intro B T h1 h2
    cases B with
    | nil => cases T with
      | nil => rfl
      | cons x T => cases h2
    | cons b B => cases T with
      | nil => cases h2
      | cons x T =>
        rw [List.length_cons] at h1
        rw [List.length_cons, List.length_cons] at h2
        show M b x * permR M B T + sumP (fun y R => M b y * permR M B (x :: R)) T = M b x * permR (fun x b => M b x) T B + sumP (fun c S => M c x * permR (fun x b => M b x) T (b :: S)) B
        rw [ih B T (by omega) (by omega)]
        have e1 : sumP (fun y R => M b y * permR M B (x :: R)) T = sumP (fun y R => sumP (fun c S => M b y * (M c x * permR (fun x b => M b x) R S)) B) T := by
          refine sumP_cong (fun y R hR => ?_)
          rw [ih B (x :: R) (by omega) (by rw [List.length_cons]; omega), ← sumP_mul]
          rfl
        have e2 : sumP (fun c S => M c x * permR (fun x b => M b x) T (b :: S)) B = sumP (fun c S => sumP (fun y R => M b y * (M c x * permR (fun x b => M b x) R S)) T) B := by
          refine sumP_cong (fun c S hS => ?_)
          rw [← ih (b :: S) T (by rw [List.length_cons]; omega) (by rw [List.length_cons]; omega)]
          show M c x * sumP (fun y R => M b y * permR M S R) T = _
          rw [sumP_mul]
          refine sumP_cong (fun y R hR => ?_)
          rw [ih S R (by omega) (by omega), ← Nat.mul_assoc, ← Nat.mul_assoc, Nat.mul_comm (M c x) (M b y)]
        rw [e1, e2, sumP_comm]
/-- those of a set below n, the greatest first -/
def elD (U : Nat → Bool) : Nat → List Nat
  | 0 => []
  | n + 1 => if U n = true then n :: elD U n else elD U n
/-- those of a set below n, the least first -/
def elA (U : Nat → Bool) : Nat → List Nat
  | 0 => []
  | n + 1 => if U n = true then elA U n ++ [n] else elA U n
def out (U : Nat → Bool) (x : Nat) : Nat → Bool := fun y => if y = x then false else U y
theorem elD_cong {U V : Nat → Bool} : ∀ n, (∀ y, y < n → U y = V y) → elD U n = elD V n := by
  intro n
  induction n with
  | zero => intro _; rfl
  | succ n ih =>
    intro h
    unfold elD
    rw [h n (by omega), ih (fun y hy => h y (by omega))]
theorem elA_cong {U V : Nat → Bool} : ∀ n, (∀ y, y < n → U y = V y) → elA U n = elA V n := by
  intro n
  induction n with
  | zero => intro _; rfl
  | succ n ih =>
    intro h
    unfold elA
    rw [h n (by omega), ih (fun y hy => h y (by omega))]
theorem sumP_elD : ∀ n {U : Nat → Bool} {f : Nat → List Nat → Nat}, sumP f (elD U n) = fb_sm (fun b => if U b = true then f b (elD (out U b) n) else 0) n := by
  intro n
  induction n with
  | zero => intro U f; rfl
  | succ n ih =>
    intro U f
    have eo : elD (out U n) n = elD U n := elD_cong n (fun y hy => by unfold out; rw [if_neg (by omega)])
    have eb : ∀ b, b < n → elD (out U b) (n + 1) = if U n = true then n :: elD (out U b) n else elD (out U b) n := fun b hb => by
      show (if out U b n = true then n :: elD (out U b) n else elD (out U b) n) = _
      have : out U b n = U n := by unfold out; rw [if_neg (by omega)]
      rw [this]
    rw [fb_sm_succ]
    have en : elD (out U n) (n + 1) = elD U n := by
      show (if out U n n = true then n :: elD (out U n) n else elD (out U n) n) = _
      have : out U n n = false := by unfold out; rw [if_pos rfl]
      rw [this, if_neg (by decide), eo]
    rw [en]
    show sumP f (if U n = true then n :: elD U n else elD U n) = _
    by_cases h : U n = true
    · rw [if_pos h, if_pos h]
      show f n (elD U n) + sumP (fun y R => f y (n :: R)) (elD U n) = _
      rw [ih, Nat.add_comm]
      congr 1
      refine fb_sm_cong (fun b hb => ?_)
      rw [eb b hb, if_pos h]
    · rw [if_neg h, if_neg h, ih]
      show _ = fb_sm _ n
      refine fb_sm_cong (fun b hb => ?_)
      rw [eb b hb, if_neg h]
theorem sumP_app {x : Nat} : ∀ {T : List Nat} {f : Nat → List Nat → Nat}, sumP f (T ++ [x]) = sumP (fun y R => f y (R ++ [x])) T + f x T := by
  intro T
  induction T with
  | nil => intro f; show f x [] + 0 = 0 + f x []; omega
  | cons y T ih =>
    intro f
    show f y (T ++ [x]) + sumP (fun z R => f z (y :: R)) (T ++ [x]) = f y (T ++ [x]) + sumP (fun z R => f z (y :: R ++ [x])) T + f x (y :: T)
    rw [ih]; exact (Nat.add_assoc _ _ _).symm
theorem sumP_elA : ∀ n {U : Nat → Bool} {f : Nat → List Nat → Nat}, sumP f (elA U n) = fb_sm (fun b => if U b = true then f b (elA (out U b) n) else 0) n := by
  intro n
  induction n with
  | zero => intro U f; rfl
  | succ n ih =>
    intro U f
    have eo : elA (out U n) n = elA U n := elA_cong n (fun y hy => by unfold out; rw [if_neg (by omega)])
    have eb : ∀ b, b < n → elA (out U b) (n + 1) = if U n = true then elA (out U b) n ++ [n] else elA (out U b) n := fun b hb => by
      show (if out U b n = true then elA (out U b) n ++ [n] else elA (out U b) n) = _
      have : out U b n = U n := by unfold out; rw [if_neg (by omega)]
      rw [this]
    rw [fb_sm_succ]
    have en : elA (out U n) (n + 1) = elA U n := by
      show (if out U n n = true then elA (out U n) n ++ [n] else elA (out U n) n) = _
      have : out U n n = false := by unfold out; rw [if_pos rfl]
      rw [this, if_neg (by decide), eo]
    rw [en]
    show sumP f (if U n = true then elA U n ++ [n] else elA U n) = _
    by_cases h : U n = true
    · rw [if_pos h, if_pos h, sumP_app, ih]
      congr 1
      refine fb_sm_cong (fun b hb => ?_)
      rw [eb b hb, if_pos h]
    · rw [if_neg h, if_neg h, ih]
      show _ = fb_sm _ n
      refine fb_sm_cong (fun b hb => ?_)
      rw [eb b hb, if_neg h]
def dnL : Nat → List Nat
  | 0 => []
  | n + 1 => n :: dnL n
def upL (lo : Nat) : Nat → List Nat
  | 0 => []
  | c + 1 => lo :: upL (lo + 1) c
theorem upL_app : ∀ c lo, upL lo (c + 1) = upL lo c ++ [lo + c] := by
  intro c
  induction c with
  | zero => intro lo; rfl
  | succ c ih =>
    intro lo
    show lo :: upL (lo + 1) (c + 1) = lo :: (upL (lo + 1) c ++ [lo + (c + 1)])
    rw [ih, show lo + 1 + c = lo + (c + 1) by omega]
theorem elD_all {U : Nat → Bool} : ∀ n, (∀ y, y < n → U y = true) → elD U n = dnL n := by
  intro n
  induction n with
  | zero => intro _; rfl
  | succ n ih => intro h; unfold elD dnL; rw [if_pos (h n (by omega)), ih (fun y hy => h y (by omega))]
theorem elA_all {U : Nat → Bool} : ∀ n, (∀ y, y < n → U y = true) → elA U n = upL 0 n := by
  intro n
  induction n with
  | zero => intro _; rfl
  | succ n ih => intro h; unfold elA; rw [if_pos (h n (by omega)), ih (fun y hy => h y (by omega)), upL_app, Nat.zero_add]
theorem dnL_len : ∀ n, (dnL n).length = n := by
  intro n
  induction n with
  | zero => rfl
  | succ n ih => unfold dnL; rw [List.length_cons, ih]
theorem upL_len : ∀ c lo, (upL lo c).length = c := by
  intro c
  induction c with
  | zero => intro _; rfl
  | succ c ih => intro lo; unfold upL; rw [List.length_cons, ih]
theorem perm_two {M : Nat → Nat → Nat} {n : Nat} : permR (fun x b => M b x) (dnL n) (upL 0 n) = permR M (upL 0 n) (dnL n) := (permR_swap n (upL 0 n) (dnL n) (by rw [upL_len]; omega) (by rw [upL_len, dnL_len])).symm
/-! the row of a number, and the sum over all numbers -/
def kthF (U : Nat → Bool) (d : Nat) : Nat → Nat
  | 0 => 0
  | n + 1 => if U n = false ∧ rk U n = d then n else kthF U d n
theorem kthF_rk {U : Nat → Bool} {x : Nat} (hx : U x = false) : ∀ n, x < n → kthF U (rk U x) n = x := by
  intro n
  induction n with
  | zero => intro h; omega
  | succ n ih =>
    intro h
    unfold kthF
    by_cases e : x = n
    · subst e; rw [if_pos ⟨hx, rfl⟩]
    · rw [if_neg (fun ⟨h1, h2⟩ => by have := rk_lt (z := n) hx (by omega); omega), ih (by omega)]
theorem sm_kth {U : Nat → Bool} {F : Nat → Nat} {m : Nat} : ∀ n, n ≤ m → fb_sm (fun d => F (kthF U d m)) (rk U n) = fb_sm (fun x => if U x = false then F x else 0) n := by
  intro n
  induction n with
  | zero => intro _; rfl
  | succ n ih =>
    intro h
    rw [rk_s, fb_sm_succ, ← ih (by omega)]
    cases e : U n
    · rw [if_neg (by decide), if_pos rfl, fb_sm_succ, kthF_rk e m (by omega)]
    · rw [if_pos rfl, if_neg (by decide)]; rfl
theorem sm_mul (c : Nat) (f : Nat → Nat) : ∀ n, c * fb_sm f n = fb_sm (fun k => c * f k) n := by
  intro n
  induction n with
  | zero => rfl
  | succ n ih => rw [fb_sm_succ, fb_sm_succ, Nat.mul_add, ih]
theorem sm_two {g : Nat → Nat → Nat} {m : Nat} (hm : 0 < m) : ∀ a, fb_sm (fun q => g (q / m) (q % m)) (a * m) = fb_sm (fun d => fb_sm (fun r => g d r) m) a := by
  intro a
  induction a with
  | zero => rw [Nat.zero_mul]; rfl
  | succ a ih =>
    rw [Nat.succ_mul, fb_sm_split, ih, fb_sm_succ]
    congr 1
    refine fb_sm_cong (fun r hr => ?_)
    rw [Nat.mul_comm a m, Nat.mul_add_div hm, Nat.mul_add_mod, Nat.div_eq_of_lt hr, Nat.mod_eq_of_lt hr, Nat.add_zero]
def lvR (M : Nat → Nat → Nat) (n : Nat) : Nat → (Nat → Bool) → Nat → Nat
  | 0, _, _ => 1
  | m + 1, U, q => M (n - (m + 1)) (kthF U (q / FAC m) n) * lvR M n m (Us U (kthF U (q / FAC m) n)) (q % FAC m)
theorem lv_sum {M : Nat → Nat → Nat} {n : Nat} (hn : n ≤ 18) : ∀ m U, m ≤ n → rk U n = m → fb_sm (lvR M n m U) (FAC m) = permR M (upL (n - m) m) (elD (fun y => !U y) n) := by
  intro m
  induction m with
  | zero => intro U _ _; rfl
  | succ m ih =>
    intro U hm hr
    have hf := (FAC_lt m (by omega)).1
    rw [FAC_s m (by omega), Nat.mul_comm]
    have e1 := sm_two (g := fun d r => M (n - (m + 1)) (kthF U d n) * lvR M n m (Us U (kthF U d n)) r) hf (m + 1)
    have e2 : fb_sm (lvR M n (m + 1) U) ((m + 1) * FAC m) = fb_sm (fun d => (fun x => M (n - (m + 1)) x * fb_sm (lvR M n m (Us U x)) (FAC m)) (kthF U d n)) (m + 1) := by
      refine Eq.trans ?_ (e1.trans ?_)
      · rfl
      · refine fb_sm_cong (fun d _ => ?_)
        exact (sm_mul _ _ _).symm
    rw [e2, ← hr, sm_kth (F := fun x => M (n - rk U n) x * fb_sm (lvR M n m (Us U x)) (FAC m)) n (Nat.le_refl _), hr]
    show _ = sumP (fun x R => M (n - (m + 1)) x * permR M (upL (n - (m + 1) + 1) m) R) (elD (fun y => !U y) n)
    rw [sumP_elD, show n - (m + 1) + 1 = n - m by omega]
    refine fb_sm_cong (fun x hx => ?_)
    cases e : U x
    · rw [if_pos rfl, if_pos (by rfl), ih (Us U x) (by omega) (by have := rk_Us_hi e n hx; omega)]
      congr 2
      refine elD_cong n (fun y _ => ?_)
      unfold out Us
      by_cases g : y = x
      · rw [if_pos g, if_pos g]; rfl
      · rw [if_neg g, if_neg g]
    · rw [if_neg (by decide), if_neg (by decide)]
def qS (n q : Nat) : Nat → Nat × (Nat → Bool)
  | 0 => (q, fun _ => false)
  | i + 1 => ((qS n q i).1 % FAC (n - (i + 1)), Us (qS n q i).2 (kthF (qS n q i).2 ((qS n q i).1 / FAC (n - (i + 1))) n))
def sgR (n q i : Nat) : Nat := kthF (qS n q i).2 ((qS n q i).1 / FAC (n - (i + 1))) n
theorem qS_inv {n q : Nat} (hn : n ≤ 18) (hq : q < FAC n) : ∀ i, i ≤ n → (qS n q i).1 < FAC (n - i) ∧ rk (qS n q i).2 n = n - i ∧ (∀ y, (qS n q i).2 y = true ↔ ∃ p, p < i ∧ sgR n q p = y) ∧ (i < n → sgR n q i < n ∧ (qS n q i).2 (sgR n q i) = false ∧ rk (qS n q i).2 (sgR n q i) = (qS n q i).1 / FAC (n - (i + 1))) := by
  have step : ∀ i, i < n → (qS n q i).1 < FAC (n - i) → rk (qS n q i).2 n = n - i → sgR n q i < n ∧ (qS n q i).2 (sgR n q i) = false ∧ rk (qS n q i).2 (sgR n q i) = (qS n q i).1 / FAC (n - (i + 1)) := by
    intro i hi h1 h2
    have hf := (FAC_lt (n - (i + 1)) (by omega)).1
    have hd : (qS n q i).1 / FAC (n - (i + 1)) < rk (qS n q i).2 n := by
      rw [Nat.div_lt_iff_lt_mul hf, h2]
      have := FAC_s (n - (i + 1)) (by omega)
      rw [show n - (i + 1) + 1 = n - i by omega, Nat.mul_comm] at this
      omega
    obtain ⟨x, h3, h4, h5⟩ := rk_kth hd
    have : sgR n q i = x := by unfold sgR; rw [← h5, kthF_rk h4 n h3]
    rw [this]; exact ⟨h3, h4, h5⟩
  intro i
  induction i with
  | zero =>
    intro h
    have h1 : (qS n q 0).1 < FAC (n - 0) := hq
    have h2 : rk (qS n q 0).2 n = n - 0 := rk_0 n
    exact ⟨h1, h2, fun y => ⟨fun h => absurd h (show ¬ (false = true) by decide), fun ⟨p, h, _⟩ => absurd h (by omega)⟩, fun hi => step 0 hi h1 h2⟩
  | succ i ih =>
    intro hi
    obtain ⟨h1, h2, h3, h4⟩ := ih (by omega)
    obtain ⟨h5, h6, h7⟩ := h4 (by omega)
    have hf := (FAC_lt (n - (i + 1)) (by omega)).1
    have g1 : (qS n q (i + 1)).1 < FAC (n - (i + 1)) := Nat.mod_lt _ hf
    have g2 : rk (qS n q (i + 1)).2 n = n - (i + 1) := by
      have := rk_Us_hi h6 n h5
      show rk (Us (qS n q i).2 (sgR n q i)) n = _
      omega
    refine ⟨g1, g2, fun y => ?_, fun hi => step (i + 1) hi g1 g2⟩
    show (if y = sgR n q i then true else (qS n q i).2 y) = true ↔ _
    by_cases e : y = sgR n q i
    · rw [if_pos e]; exact ⟨fun _ => ⟨i, by omega, e.symm⟩, fun _ => rfl⟩
    · rw [if_neg e, h3]
      constructor
      · rintro ⟨p, hp, e2⟩; exact ⟨p, by omega, e2⟩
      · rintro ⟨p, hp, e2⟩
        by_cases e3 : p = i
        · subst e3; exact absurd e2.symm e
        · exact ⟨p, by omega, e2⟩
theorem sgR_Pm {n q : Nat} (hn : n ≤ 18) (hq : q < FAC n) : Pm n (sgR n q) := by
  refine ⟨fun j hj => ((qS_inv hn hq j (by omega)).2.2.2 hj).1, ?_⟩
  have key : ∀ i j, i < j → j < n → sgR n q i ≠ sgR n q j := fun i j hij hj e => by
    obtain ⟨-, -, h3, h4⟩ := qS_inv hn hq j (by omega)
    have h5 := (h4 hj).2.1
    rw [(h3 _).mpr ⟨i, hij, e⟩] at h5
    cases h5
  intro i j hi hj e
  rcases Nat.lt_trichotomy i j with h | h | h
  · exact absurd e (key i j h hj)
  · exact h
  · exact absurd e.symm (key j i h hi)
theorem lv_prod {p : Nat → Nat → Bool} {n q : Nat} : ∀ i, i ≤ n → lvR (fun b x => if p b x = true then 1 else 0) n n (fun _ => false) q = (if alB (fun b => p b (sgR n q b)) i = true then 1 else 0) * lvR (fun b x => if p b x = true then 1 else 0) n (n - i) (qS n q i).2 (qS n q i).1 := by
  intro i
  induction i with
  | zero => intro _; show _ = 1 * _; rw [Nat.one_mul]; rfl
  | succ i ih =>
    intro hi
    rw [ih (by omega)]
    have e : lvR (fun b x => if p b x = true then 1 else 0) n (n - i) (qS n q i).2 (qS n q i).1 = (if p i (sgR n q i) = true then 1 else 0) * lvR (fun b x => if p b x = true then 1 else 0) n (n - (i + 1)) (qS n q (i + 1)).2 (qS n q (i + 1)).1 := by
      obtain ⟨m, hm⟩ : ∃ m, n - i = m + 1 := ⟨n - (i + 1), by omega⟩
      have hm2 : n - (i + 1) = m := by omega
      have hm3 : n - (m + 1) = i := by omega
      rw [hm]
      show (if p (n - (m + 1)) (kthF (qS n q i).2 ((qS n q i).1 / FAC m) n) = true then 1 else 0) * lvR _ n m (Us (qS n q i).2 (kthF (qS n q i).2 ((qS n q i).1 / FAC m) n)) ((qS n q i).1 % FAC m) = (if p i (kthF (qS n q i).2 ((qS n q i).1 / FAC (n - (i + 1))) n) = true then 1 else 0) * lvR _ n (n - (i + 1)) (Us (qS n q i).2 (kthF (qS n q i).2 ((qS n q i).1 / FAC (n - (i + 1))) n)) ((qS n q i).1 % FAC (n - (i + 1)))
      rw [hm2, hm3]
    rw [e, ← Nat.mul_assoc]
    congr 1
    show _ = (if (alB (fun b => p b (sgR n q b)) i && p i (sgR n q i)) = true then 1 else 0)
    cases alB (fun b => p b (sgR n q b)) i <;> cases p i (sgR n q i) <;> rfl
theorem rows_sum {p : Nat → Nat → Bool} {n : Nat} (hn : n ≤ 18) : fb_sm (fun q => if alB (fun b => p b (sgR n q b)) n = true then 1 else 0) (FAC n) = permR (fun b x => if p b x = true then 1 else 0) (upL 0 n) (dnL n) := by
  have e := lv_sum (M := fun b x => if p b x = true then 1 else 0) hn n (fun _ => false) (Nat.le_refl _) (rk_0 n)
  rw [Nat.sub_self, elD_all (U := fun y => !false) n (fun _ _ => rfl)] at e
  rw [← e]
  refine fb_sm_cong (fun q _ => ?_)
  rw [lv_prod n (Nat.le_refl _), Nat.sub_self]
  exact (Nat.mul_one _).symm
