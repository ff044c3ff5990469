/-! loops whose state is told by the count -/
theorem up1 {A : Type} (L : Nat → A → Prop) (f : Nat → A) (i n : Nat) (hi : i ≤ n) (hend : ∀ k, L (k + 1) (f n)) (hstep : ∀ k j, i ≤ j → j < n → L k (f (j + 1)) → L (k + 1) (f j)) {a : A} (ha : a = f i) : ∃ k, L k a := by
  subst ha
  suffices h : ∀ d j, j + d = n → i ≤ j → L (d + 1) (f j) from ⟨_, h (n - i) i (by omega) (Nat.le_refl _)⟩
  intro d
  induction d with
  | zero => intro j h1 h2; have : j = n := by omega
            subst this; exact hend 0
  | succ d ih => intro j h1 h2; exact hstep (d + 1) j h2 (by omega) (ih (j + 1) (by omega) (by omega))
theorem up2 {A B : Type} (L : Nat → A → B → Prop) (f : Nat → A) (g : Nat → B) (i n : Nat) (hi : i ≤ n) (hend : ∀ k, L (k + 1) (f n) (g n)) (hstep : ∀ k j, i ≤ j → j < n → L k (f (j + 1)) (g (j + 1)) → L (k + 1) (f j) (g j)) {a : A} {b : B} (ha : a = f i) (hb : b = g i) : ∃ k, L k a b := by
  subst ha hb
  exact up1 (fun k (s : A × B) => L k s.1 s.2) (fun j => (f j, g j)) i n hi hend hstep rfl
theorem up3 {A B C : Type} (L : Nat → A → B → C → Prop) (f : Nat → A) (g : Nat → B) (h : Nat → C) (i n : Nat) (hi : i ≤ n) (hend : ∀ k, L (k + 1) (f n) (g n) (h n)) (hstep : ∀ k j, i ≤ j → j < n → L k (f (j + 1)) (g (j + 1)) (h (j + 1)) → L (k + 1) (f j) (g j) (h j)) {a : A} {b : B} {c : C} (ha : a = f i) (hb : b = g i) (hc : c = h i) : ∃ k, L k a b c := by
  subst ha hb hc
  exact up1 (fun k (s : A × B × C) => L k s.1 s.2.1 s.2.2) (fun j => (f j, g j, h j)) i n hi hend hstep rfl
theorem up4 {A B C D : Type} (L : Nat → A → B → C → D → Prop) (f : Nat → A) (g : Nat → B) (h : Nat → C) (u : Nat → D) (i n : Nat) (hi : i ≤ n) (hend : ∀ k, L (k + 1) (f n) (g n) (h n) (u n)) (hstep : ∀ k j, i ≤ j → j < n → L k (f (j + 1)) (g (j + 1)) (h (j + 1)) (u (j + 1)) → L (k + 1) (f j) (g j) (h j) (u j)) {a : A} {b : B} {c : C} {d : D} (ha : a = f i) (hb : b = g i) (hc : c = h i) (hd : d = u i) : ∃ k, L k a b c d := by
  subst ha hb hc hd
  exact up1 (fun k (s : A × B × C × D) => L k s.1 s.2.1 s.2.2.1 s.2.2.2) (fun j => (f j, g j, h j, u j)) i n hi hend hstep rfl
theorem up5 {A B C D E : Type} (L : Nat → A → B → C → D → E → Prop) (f : Nat → A) (g : Nat → B) (h : Nat → C) (u : Nat → D) (v : Nat → E) (i n : Nat) (hi : i ≤ n) (hend : ∀ k, L (k + 1) (f n) (g n) (h n) (u n) (v n)) (hstep : ∀ k j, i ≤ j → j < n → L k (f (j + 1)) (g (j + 1)) (h (j + 1)) (u (j + 1)) (v (j + 1)) → L (k + 1) (f j) (g j) (h j) (u j) (v j)) {a : A} {b : B} {c : C} {d : D} {e : E} (ha : a = f i) (hb : b = g i) (hc : c = h i) (hd : d = u i) (he : e = v i) : ∃ k, L k a b c d e := by
  subst ha hb hc hd he
  exact up1 (fun k (s : A × B × C × D × E) => L k s.1 s.2.1 s.2.2.1 s.2.2.2.1 s.2.2.2.2) (fun j => (f j, g j, h j, u j, v j)) i n hi hend hstep rfl
theorem up6 {A B C D E F : Type} (L : Nat → A → B → C → D → E → F → Prop) (f : Nat → A) (g : Nat → B) (h : Nat → C) (u : Nat → D) (v : Nat → E) (w : Nat → F) (i n : Nat) (hi : i ≤ n) (hend : ∀ k, L (k + 1) (f n) (g n) (h n) (u n) (v n) (w n)) (hstep : ∀ k j, i ≤ j → j < n → L k (f (j + 1)) (g (j + 1)) (h (j + 1)) (u (j + 1)) (v (j + 1)) (w (j + 1)) → L (k + 1) (f j) (g j) (h j) (u j) (v j) (w j)) {a : A} {b : B} {c : C} {d : D} {e : E} {x : F} (ha : a = f i) (hb : b = g i) (hc : c = h i) (hd : d = u i) (he : e = v i) (hx : x = w i) : ∃ k, L k a b c d e x := by
  subst ha hb hc hd he hx
  exact up1 (fun k (s : A × B × C × D × E × F) => L k s.1 s.2.1 s.2.2.1 s.2.2.2.1 s.2.2.2.2.1 s.2.2.2.2.2) (fun j => (f j, g j, h j, u j, v j, w j)) i n hi hend hstep rfl
theorem pk_ne {x y : Int32} {A B : Prop} (a b : Nat) (f : a ≠ b → A) (g : a = b → B) (hx : x = nI a := by rfl) (hy : y = nI b := by rfl) (ha : a < 2 ^ 31 := by omega) (hb : b < 2 ^ 31 := by omega) : (¬ x = y → A) ∧ (x = y → B) := by
  subst hx hy
  rw [nI_eq ha hb]
  exact ⟨f, g⟩
theorem nI_max {a b : Nat} (ha : a < 2 ^ 31) (hb : b < 2 ^ 31) : (if nI a < nI b then nI b else nI a) = nI (max a b) := by
  by_cases h : a < b
  · rw [if_pos (nI_lt h hb), Nat.max_eq_right (by omega)]
  · rw [if_neg (nI_nlt (by omega) ha), Nat.max_eq_left (by omega)]
theorem nI_min {a b : Nat} (ha : a < 2 ^ 31) (hb : b < 2 ^ 31) : (if nI b < nI a then nI b else nI a) = nI (min a b) := by
  by_cases h : b < a
  · rw [if_pos (nI_lt h ha), Nat.min_eq_right (by omega)]
  · rw [if_neg (nI_nlt (by omega) hb), Nat.min_eq_left (by omega)]
theorem one_ne : ¬ (1 : Int32) = 0 := by decide
/-! the class Order: a row of n things, as naturals -/
def Rw (n : Nat) (row : Nat → Int32) (σ : Nat → Nat) : Prop := ∀ j, j < n → row j = nI (σ j)
def In (n : Nat) (σ : Nat → Nat) : Prop := ∀ j, j < n → σ j < n
def Pm (n : Nat) (σ : Nat → Nat) : Prop := In n σ ∧ ∀ i j, i < n → j < n → σ i = σ j → i = j
section Ord
variable {n : Nat} {row made : Nat → Int32} {σ : Nat → Nat}
theorem o_holds {i : Nat} {Q : Int32 → Prop} (hn : n ≤ 18) (hi : i < n) (h : Q 1) : q1_holds (nI n) (nI i) Q := by
  unfold q1_holds
  exact pk_lt i 0 (fun h => by omega) (fun _ => pk_le n i (fun h => by omega) (fun _ => h))
theorem o_follow {i x : Nat} {Q : Int32 → Prop} (hn : n ≤ 18) (hi : i < n) (hr : row i = nI x) (h : Q (nI x)) : q1_follow row (nI n) (nI i) Q := by
  unfold q1_follow
  refine o_holds hn hi ⟨fun h => absurd h (by decide), fun _ => ⟨pk_in i 18 (by omega), ?_⟩⟩
  rw [nI_clamp (by omega), hr]
  exact h
theorem o_makeAt {i : Nat} {v : Int32} {Q : (Nat → Int32) → Prop} (hn : n ≤ 18) (hi : i < n) (h : Q (upd made i v)) : q1_makeAt (nI n) made (nI i) v Q := by
  unfold q1_makeAt
  refine o_holds hn hi ⟨fun h => absurd h (by decide), fun _ => ⟨pk_in i 18 (by omega), ?_⟩⟩
  rw [nI_clamp (by omega)]
  exact h
theorem o_startWith {a : Nat} {o : Int32} {Q : (Nat → Int32) → Int32 → Prop} (ha : a ≤ 18) (h : Q (fa_fill (fun j => nI j) row a) (nI a)) : q1_startWith row o (nI a) Q := by
  unfold q1_startWith
  rw [show (18 : Int32) = nI 18 from rfl, if_neg (nI_nlt ha (by decide))]
  refine up3 (q1_startWith_12 Q) (fun j => nI j) (fun j => fa_fill (fun j => nI j) row j) (fun _ => nI a) 0 a (Nat.zero_le _) (fun k => ?_) (fun k j h1 h2 ih => ?_) rfl (fa_fill_0 _ _).symm rfl
  · unfold q1_startWith_12
    exact pk_le a a (fun _ => h) (fun h => by omega)
  · unfold q1_startWith_12
    refine pk_le a j (fun h => by omega) (fun _ => ⟨pk_in j 18 (by omega), ?_⟩)
    rw [nI_1, nI_clamp (by omega), fa_fill_succ (fun j => nI j)]
    exact ih
theorem o_keepMade {Q : (Nat → Int32) → Prop} (hn : n ≤ 18) (h : Q (fa_fill made row n)) : q1_keepMade made (nI n) row Q := by
  unfold q1_keepMade
  refine up2 (q1_keepMade_2 made (nI n) Q) (fun j => nI j) (fun j => fa_fill made row j) 0 n (Nat.zero_le _) (fun k => ?_) (fun k j h1 h2 ih => ?_) rfl (fa_fill_0 _ _).symm
  · unfold q1_keepMade_2
    exact pk_le n n (fun _ => h) (fun h => by omega)
  · unfold q1_keepMade_2
    refine pk_le n j (fun h => by omega) (fun _ => ⟨pk_in j 18 (by omega), pk_in j 18 (by omega), ?_⟩)
    rw [nI_1, nI_clamp (by omega), fa_fill_succ]
    exact ih
theorem o_exchange {i j : Nat} {Q : (Nat → Int32) → Prop} (hn : n ≤ 18) (hi : i < n) (hj : j < n) (h : Q (upd (upd row i (row j)) j (row i))) : q1_exchange (nI n) row (nI i) (nI j) Q := by
  unfold q1_exchange
  refine o_holds hn hi ⟨fun h => absurd h (by decide), fun _ => o_holds hn hj ⟨fun h => absurd h (by decide), fun _ => ⟨pk_in i 18 (by omega), pk_in j 18 (by omega), pk_in i 18 (by omega), pk_in j 18 (by omega), ?_⟩⟩⟩
  rw [nI_clamp (by omega), nI_clamp (by omega)]
  exact h
theorem o_copyFrom {p : Nat → Int32} {Q : (Nat → Int32) → Prop} (hn : n ≤ 18) (h : Q (fa_fill p row n)) : q1_copyFrom (nI n) p row Q := by
  unfold q1_copyFrom
  refine up2 (q1_copyFrom_2 (nI n) p Q) (fun j => nI j) (fun j => fa_fill p row j) 0 n (Nat.zero_le _) (fun k => ?_) (fun k j h1 h2 ih => ?_) rfl (fa_fill_0 _ _).symm
  · unfold q1_copyFrom_2
    exact pk_le n n (fun _ => h) (fun h => by omega)
  · unfold q1_copyFrom_2
    refine pk_le n j (fun h => by omega) (fun _ => ⟨pk_in j 18 (by omega), pk_in j 18 (by omega), ?_⟩)
    rw [nI_1, nI_clamp (by omega), fa_fill_succ]
    exact ih
theorem o_goOnBy {p : Nat → Int32} {τ : Nat → Nat} {Q : (Nat → Int32) → Prop} (hn : n ≤ 18) (hr : Rw n row σ) (hs : In n σ) (hp : Rw n p τ) (h : Q (fa_fill (fun j => nI (τ (σ j))) row n)) : q1_goOnBy (nI n) p (nI n) row Q := by
  unfold q1_goOnBy
  refine up2 (q1_goOnBy_2 (nI n) p (nI n) Q) (fun j => nI j) (fun j => fa_fill (fun j => nI (τ (σ j))) row j) 0 n (Nat.zero_le _) (fun k => ?_) (fun k j h1 h2 ih => ?_) rfl (fa_fill_0 _ _).symm
  · unfold q1_goOnBy_2
    exact pk_le n n (fun _ => h) (fun h => by omega)
  · unfold q1_goOnBy_2
    refine pk_le n j (fun h => by omega) (fun _ => ⟨pk_in j 18 (by omega), ?_⟩)
    rw [nI_clamp (by omega), fa_fill_out (Nat.le_refl j), hr j h2]
    refine o_follow hn (hs j h2) (hp _ (hs j h2)) ⟨pk_in j 18 (by omega), ?_⟩
    rw [nI_1, fa_fill_succ (fun j => nI (τ (σ j)))]
    exact ih
/-- a row written at the places σ 0, σ 1, .. -/
def scat (σ : Nat → Nat) (e : Nat → Int32) (g : Nat → Int32) : Nat → Nat → Int32
  | 0 => g
  | i + 1 => upd (scat σ e g i) (σ i) (e i)
theorem scat_at {e g : Nat → Int32} (hs : Pm n σ) : ∀ i, i ≤ n → ∀ j, j < i → scat σ e g i (σ j) = e j := by
  intro i
  induction i with
  | zero => intro _ j hj; omega
  | succ i ih =>
    intro hi j hj
    show upd (scat σ e g i) (σ i) (e i) (σ j) = e j
    by_cases h : j = i
    · subst h; exact pk_us
    · rw [pk_un (fun h2 => h (hs.2 j i (by omega) (by omega) h2))]
      exact ih (by omega) j (by omega)
theorem o_turnBack {Q : (Nat → Int32) → (Nat → Int32) → Prop} (hn : n ≤ 18) (hr : Rw n row σ) (hs : In n σ) (h : Q (fa_fill (scat σ (fun j => nI j) made n) row n) (scat σ (fun j => nI j) made n)) : q1_turnBack (nI n) row made Q := by
  unfold q1_turnBack
  refine up3 (q1_turnBack_2 (nI n) Q) (fun j => nI j) (fun _ => row) (fun j => scat σ (fun j => nI j) made j) 0 n (Nat.zero_le _) (fun k => ?_) (fun k j h1 h2 ih => ?_) rfl rfl rfl
  · unfold q1_turnBack_2
    refine pk_le n n (fun _ => ?_) (fun h => by omega)
    unfold q1_turnBack_27
    exact o_keepMade hn h
  · unfold q1_turnBack_2
    refine pk_le n j (fun h => by omega) (fun _ => ⟨pk_in j 18 (by omega), ?_⟩)
    rw [nI_clamp (by omega), hr j h2]
    refine o_makeAt hn (hs j h2) ?_
    rw [nI_1]
    exact ih
end Ord
