/-! ===== counting: the number of places below n at which P holds ===== -/
noncomputable def gr_sz (P : Nat → Prop) : Nat → Nat
  | 0 => 0
  | n + 1 => gr_sz P n + @ite Nat (P n) (Classical.propDecidable (P n)) 1 0
theorem gr_sz_le (P : Nat → Prop) : ∀ n, gr_sz P n ≤ n := by
  intro n
  induction n with
  | zero => exact Nat.le_refl 0
  | succ n ih =>
    simp only [gr_sz]
    by_cases p : P n
    · rw [if_pos p]; omega
    · rw [if_neg p]; omega
theorem gr_sz_mono {P Q : Nat → Prop} : ∀ n, (∀ i, i < n → P i → Q i) → gr_sz P n ≤ gr_sz Q n := by
  intro n
  induction n with
  | zero => intro _; exact Nat.le_refl 0
  | succ n ih =>
    intro h
    have h1 := ih (fun i hi => h i (by omega))
    have h2 := h n (by omega)
    simp only [gr_sz]
    by_cases p : P n
    · rw [if_pos p, if_pos (h2 p)]; omega
    · rw [if_neg p]
      by_cases q : Q n
      · rw [if_pos q]; omega
      · rw [if_neg q]; omega
theorem gr_sz_lt {P Q : Nat → Prop} : ∀ n, (∀ i, i < n → P i → Q i) → ∀ j, j < n → Q j → ¬ P j → gr_sz P n < gr_sz Q n := by
  intro n
  induction n with
  | zero => intro _ j hj; omega
  | succ n ih =>
    intro h j hj hq hp
    have h2 := h n (by omega)
    simp only [gr_sz]
    by_cases e : j = n
    · subst e
      have h1 := gr_sz_mono j (fun i hi => h i (by omega))
      rw [if_neg hp, if_pos hq]; omega
    · have h1 := ih (fun i hi => h i (by omega)) j (by omega) hq hp
      by_cases p : P n
      · rw [if_pos p, if_pos (h2 p)]; omega
      · rw [if_neg p]
        by_cases q : Q n
        · rw [if_pos q]; omega
        · rw [if_neg q]; omega
theorem gr_sz_full {P : Nat → Prop} {n : Nat} (h : n ≤ gr_sz P n) (i : Nat) (hi : i < n) : P i := by
  by_cases p : P i
  · exact p
  · have h1 := gr_sz_lt (P := P) (Q := fun _ => True) n (fun _ _ _ => trivial) i hi trivial p
    have h2 := gr_sz_le (fun _ => True) n
    omega
theorem gr_sz_pos {P : Nat → Prop} {n i : Nat} (hi : i < n) (p : P i) : 0 < gr_sz P n := by
  have h1 := gr_sz_lt (P := fun _ => False) (Q := P) n (fun _ _ z => z.elim) i hi p (fun z => z)
  omega
/-! ===== paths ===== -/
def gr_pth (E : Nat → Nat → Prop) : Nat → Nat → Nat → Prop
  | 0, s, t => s = t
  | n + 1, s, t => ∃ m, E s m ∧ gr_pth E n m t
def gr_R (E : Nat → Nat → Prop) (s t : Nat) : Prop := ∃ n, gr_pth E n s t
def gr_P (E : Nat → Nat → Prop) (s t : Nat) : Prop := ∃ n, gr_pth E (n + 1) s t
def gr_inf (E : Nat → Nat → Prop) (t : Nat) : Prop := ∃ S : Nat → Prop, S t ∧ ∀ x, S x → ∃ y, E x y ∧ S y
theorem gr_add {E : Nat → Nat → Prop} : ∀ a b s m t, gr_pth E a s m → gr_pth E b m t → gr_pth E (a + b) s t := by
  intro a
  induction a with
  | zero =>
    intro b s m t h1 h2
    have h1 : s = m := h1
    subst h1
    rw [Nat.zero_add]
    exact h2
  | succ a ih =>
    intro b s m t h1 h2
    obtain ⟨q, hq, h1⟩ := h1
    rw [show a + 1 + b = (a + b) + 1 from by omega]
    exact ⟨q, hq, ih b q m t h1 h2⟩
theorem gr_one {E : Nat → Nat → Prop} {s t : Nat} (h : E s t) : gr_pth E 1 s t := ⟨t, h, rfl⟩
theorem gr_snoc {E : Nat → Nat → Prop} {n s m t : Nat} (h : gr_pth E n s m) (e : E m t) : gr_pth E (n + 1) s t := gr_add n 1 s m t h (gr_one e)
theorem gr_unsnoc {E : Nat → Nat → Prop} : ∀ n s t, gr_pth E (n + 1) s t → ∃ m, gr_pth E n s m ∧ E m t := by
  intro n
  induction n with
  | zero =>
    intro s t h
    obtain ⟨m, hm, h⟩ := h
    have h : m = t := h
    subst h
    exact ⟨s, rfl, hm⟩
  | succ n ih =>
    intro s t h
    obtain ⟨m, hm, h⟩ := h
    obtain ⟨q, h1, h2⟩ := ih m t h
    exact ⟨q, ⟨m, hm, h1⟩, h2⟩
theorem gr_Rr {E : Nat → Nat → Prop} (s : Nat) : gr_R E s s := ⟨0, rfl⟩
theorem gr_Rt {E : Nat → Nat → Prop} {a b c : Nat} (h : gr_R E a b) (g : gr_R E b c) : gr_R E a c := by
  obtain ⟨n, h⟩ := h
  obtain ⟨m, g⟩ := g
  exact ⟨n + m, gr_add n m a b c h g⟩
theorem gr_Rs {E : Nat → Nat → Prop} {a b c : Nat} (h : gr_R E a b) (g : E b c) : gr_R E a c := gr_Rt h ⟨1, gr_one g⟩
theorem gr_PR {E : Nat → Nat → Prop} {a b : Nat} (h : gr_P E a b) : gr_R E a b := h.elim (fun n h => ⟨n + 1, h⟩)
theorem gr_RP {E : Nat → Nat → Prop} {a b : Nat} : gr_R E a b ↔ (gr_P E a b ∨ a = b) := by
  constructor
  · intro h
    obtain ⟨n, h⟩ := h
    cases n with
    | zero => exact Or.inr h
    | succ n => exact Or.inl ⟨n, h⟩
  · intro h
    rcases h with h | h
    · exact gr_PR h
    · subst h; exact gr_Rr a
theorem gr_in {E : Nat → Nat → Prop} (hE : ∀ x y, E x y → y < 64) : ∀ n s t, s < 64 → gr_pth E n s t → t < 64 := by
  intro n
  induction n with
  | zero => intro s t hs h; have h : s = t := h; omega
  | succ n ih =>
    intro s t _ h
    obtain ⟨m, hm, h⟩ := h
    exact ih m t (hE _ _ hm) h
theorem gr_infP {E : Nat → Nat → Prop} {S : Nat → Prop} (hS : ∀ x, S x → ∃ y, E x y ∧ S y) : ∀ n t, S t → ∃ u, gr_pth E n t u ∧ S u := by
  intro n
  induction n with
  | zero => intro t h; exact ⟨t, rfl, h⟩
  | succ n ih =>
    intro t h
    obtain ⟨y, e, hy⟩ := hS t h
    obtain ⟨u, p, hu⟩ := ih y hy
    exact ⟨u, ⟨y, e, p⟩, hu⟩
/-- without a cycle on the way what can be come to shrinks with every step -/
theorem gr_desc {E : Nat → Nat → Prop} (hE : ∀ x y, E x y → y < 64) (s : Nat) (hc : ∀ t, gr_R E s t → ¬ gr_P E t t) : ∀ n x y, gr_R E s x → x < 64 → gr_pth E n x y → gr_sz (gr_R E y) 64 + n ≤ gr_sz (gr_R E x) 64 := by
  intro n
  induction n with
  | zero =>
    intro x y _ _ h
    have h : x = y := h
    subst h
    omega
  | succ n ih =>
    intro x y hx hl h
    obtain ⟨m, e, h⟩ := h
    have h1 := ih m y (gr_Rs hx e) (hE _ _ e) h
    have h2 : gr_sz (gr_R E m) 64 < gr_sz (gr_R E x) 64 := by
      refine gr_sz_lt 64 (fun i _ hi => gr_Rt ⟨1, gr_one e⟩ hi) x hl (gr_Rr x) (fun z => ?_)
      obtain ⟨k, z⟩ := z
      exact hc x hx ⟨k, m, e, z⟩
    omega
theorem gr_cyc {E : Nat → Nat → Prop} (hE : ∀ x y, E x y → y < 64) {s u : Nat} (hs : s < 64) (h : gr_pth E 64 s u) : ∃ t, gr_R E s t ∧ gr_P E t t := by
  apply Classical.byContradiction
  intro z
  have hc : ∀ t, gr_R E s t → ¬ gr_P E t t := fun t h1 h2 => z ⟨t, h1, h2⟩
  have h1 := gr_desc hE s hc 64 s u (gr_Rr s) hs h
  have h2 := gr_sz_le (gr_R E s) 64
  have h3 := gr_sz_pos (P := gr_R E u) (gr_in hE 64 s u hs h) (gr_Rr u)
  omega
theorem gr_cycInf {E : Nat → Nat → Prop} {t : Nat} (h : gr_P E t t) : gr_inf E t := by
  refine ⟨fun x => gr_R E x t, gr_Rr t, ?_⟩
  intro x hx
  have h2 : ∃ n, gr_pth E (n + 1) x t := by
    obtain ⟨n, hx⟩ := hx
    cases n with
    | zero => have hx : x = t := hx; subst hx; exact h
    | succ n => exact ⟨n, hx⟩
  obtain ⟨n, y, e, p⟩ := h2
  exact ⟨y, e, n, p⟩
theorem gr_A {E : Nat → Nat → Prop} (hE : ∀ x y, E x y → y < 64) {s : Nat} (hs : s < 64) : (∃ t, gr_R E s t ∧ gr_P E t t) ↔ ∃ t, gr_R E s t ∧ gr_inf E t := by
  constructor
  · intro h
    obtain ⟨t, h1, h2⟩ := h
    exact ⟨t, h1, gr_cycInf h2⟩
  · intro h
    obtain ⟨t, h1, S, h2, h3⟩ := h
    obtain ⟨u, p, _⟩ := gr_infP h3 64 t h2
    have ht : t < 64 := by
      obtain ⟨n, h1⟩ := h1
      exact gr_in hE n s t hs h1
    obtain ⟨q, h4, h5⟩ := gr_cyc hE ht p
    exact ⟨q, gr_Rt h1 h4, h5⟩
theorem gr_B {E : Nat → Nat → Prop} {T : Nat → Prop} (hE : ∀ x y, E x y → y < 64) (hT : ∀ x y, E x y → T x) {s : Nat} (hs : s < 64) : (∃ t, gr_R E s t ∧ ∃ u, gr_pth E 64 t u ∧ T u) ↔ ∃ t, gr_R E s t ∧ gr_inf E t := by
  constructor
  · intro h
    obtain ⟨t, h1, u, p, _⟩ := h
    have ht : t < 64 := by
      obtain ⟨n, h1⟩ := h1
      exact gr_in hE n s t hs h1
    obtain ⟨q, h4, h5⟩ := gr_cyc hE ht p
    exact ⟨q, gr_Rt h1 h4, gr_cycInf h5⟩
  · intro h
    obtain ⟨t, h1, S, h2, h3⟩ := h
    obtain ⟨u, p, hu⟩ := gr_infP h3 64 t h2
    obtain ⟨y, e, _⟩ := h3 u hu
    exact ⟨t, h1, u, p, hT u y e⟩
/-! ===== all that can be come to is come to within 64 steps ===== -/
theorem gr_short {E : Nat → Nat → Prop} (hE : ∀ x y, E x y → y < 64) {s t : Nat} (hs : s < 64) (h : gr_P E s t) : ∃ k, k < 64 ∧ gr_pth E (k + 1) s t := by
  have hcl : ∀ k, (∀ t, (∃ j, j < k + 1 ∧ gr_pth E (j + 1) s t) → ∃ j, j < k ∧ gr_pth E (j + 1) s t) ∨ k ≤ gr_sz (fun t => ∃ j, j < k ∧ gr_pth E (j + 1) s t) 64 := by
    intro k
    induction k with
    | zero => exact Or.inr (Nat.zero_le _)
    | succ k ih =>
      by_cases c : ∀ t, (∃ j, j < k + 1 ∧ gr_pth E (j + 1) s t) → ∃ j, j < k ∧ gr_pth E (j + 1) s t
      · refine Or.inl (fun t ht => ?_)
        obtain ⟨j, hj, p⟩ := ht
        by_cases e : j = k + 1
        · subst e
          obtain ⟨m, p1, p2⟩ := gr_unsnoc _ _ _ p
          obtain ⟨i, hi, p3⟩ := c m ⟨k, by omega, p1⟩
          exact ⟨i + 1, by omega, gr_snoc p3 p2⟩
        · exact ⟨j, by omega, p⟩
      · rcases ih with ih | ih
        · exact absurd ih c
        · refine Or.inr ?_
          have hx : ∃ t, (∃ j, j < k + 1 ∧ gr_pth E (j + 1) s t) ∧ ¬ ∃ j, j < k ∧ gr_pth E (j + 1) s t := by
            apply Classical.byContradiction
            intro z
            exact c (fun t h1 => Classical.byContradiction (fun h2 => z ⟨t, h1, h2⟩))
          obtain ⟨t, h1, h2⟩ := hx
          have ht : t < 64 := by
            obtain ⟨j, _, p⟩ := h1
            exact gr_in hE _ s t hs p
          have h3 := gr_sz_lt (P := fun t => ∃ j, j < k ∧ gr_pth E (j + 1) s t) (Q := fun t => ∃ j, j < k + 1 ∧ gr_pth E (j + 1) s t) 64 (fun i _ hi => by
            obtain ⟨j, hj, p⟩ := hi
            exact ⟨j, by omega, p⟩) t ht h1 h2
          omega
  have h64 : ∀ t, (∃ j, j < 65 ∧ gr_pth E (j + 1) s t) → ∃ j, j < 64 ∧ gr_pth E (j + 1) s t := by
    rcases hcl 64 with c | c
    · exact c
    · intro t ht
      have hl : t < 64 := by
        obtain ⟨j, _, p⟩ := ht
        exact gr_in hE _ s t hs p
      exact gr_sz_full c t hl
  obtain ⟨n, h⟩ := h
  induction n generalizing t with
  | zero => exact ⟨0, by omega, h⟩
  | succ n ih =>
    obtain ⟨m, p, e⟩ := gr_unsnoc _ _ _ h
    obtain ⟨j, hj, q⟩ := ih p
    exact h64 t ⟨j + 1, by omega, gr_snoc q e⟩
/-! ===== closing step by step ===== -/
def gr_ws (E : Nat → Nat → Prop) : Nat → Nat → Nat → Prop
  | 0, s, t => E s t
  | m + 1, s, t => gr_ws E m s t ∨ (gr_ws E m s m ∧ gr_ws E m m t)
theorem gr_ws_P {E : Nat → Nat → Prop} : ∀ m s t, gr_ws E m s t → gr_P E s t := by
  intro m
  induction m with
  | zero => intro s t h; exact ⟨0, gr_one h⟩
  | succ m ih =>
    intro s t h
    rcases h with h | ⟨h1, h2⟩
    · exact ih s t h
    · obtain ⟨a, h1⟩ := ih _ _ h1
      obtain ⟨b, h2⟩ := ih _ _ h2
      have h3 := gr_add _ _ _ _ _ h1 h2
      rw [show a + 1 + (b + 1) = (a + 1 + b) + 1 from by omega] at h3
      exact ⟨_, h3⟩
theorem gr_ws_t {E : Nat → Nat → Prop} : ∀ m s x t, x < m → gr_ws E m s x → gr_ws E m x t → gr_ws E m s t := by
  intro m
  induction m with
  | zero => intro s x t h; omega
  | succ m ih =>
    intro s x t hx h1 h2
    by_cases e : x = m
    · subst e
      have a : gr_ws E x s x := by
        rcases h1 with h | h
        · exact h
        · exact h.1
      have b : gr_ws E x x t := by
        rcases h2 with h | h
        · exact h
        · exact h.2
      exact Or.inr ⟨a, b⟩
    · have hx : x < m := by omega
      rcases h1 with h1 | ⟨h1, h3⟩
      · rcases h2 with h2 | ⟨h2, h4⟩
        · exact Or.inl (ih s x t hx h1 h2)
        · exact Or.inr ⟨ih s x m hx h1 h2, h4⟩
      · rcases h2 with h2 | ⟨h2, h4⟩
        · exact Or.inr ⟨h1, ih m x t hx h3 h2⟩
        · exact Or.inr ⟨h1, h4⟩
theorem gr_ws_E {E : Nat → Nat → Prop} {s t : Nat} (h : E s t) : ∀ m, gr_ws E m s t := by
  intro m
  induction m with
  | zero => exact h
  | succ m ih => exact Or.inl ih
theorem gr_ws_64 {E : Nat → Nat → Prop} (hE : ∀ x y, E x y → y < 64) {s t : Nat} : gr_ws E 64 s t ↔ gr_P E s t := by
  constructor
  · exact gr_ws_P 64 s t
  · intro h
    obtain ⟨n, h⟩ := h
    induction n generalizing t with
    | zero =>
      obtain ⟨m, e, h⟩ := h
      have h : m = t := h
      subst h
      exact gr_ws_E e 64
    | succ n ih =>
      obtain ⟨m, p, e⟩ := gr_unsnoc _ _ _ h
      have hm : m < 64 := by
        obtain ⟨q, _, e2⟩ := gr_unsnoc _ _ _ p
        exact hE _ _ e2
      exact gr_ws_t 64 s m t hm (ih p) (gr_ws_E e 64)
/-- a set that holds s, holds no more than can be come to, and is closed, is what can be come to -/
theorem gr_clo {E : Nat → Nat → Prop} {B : Nat → Prop} {s : Nat} (h0 : B s) (hc : ∀ t u, B t → E t u → B u) {t : Nat} (h : gr_R E s t) : B t := by
  obtain ⟨n, h⟩ := h
  induction n generalizing t with
  | zero => have h : s = t := h; subst h; exact h0
  | succ n ih =>
    obtain ⟨m, p, e⟩ := gr_unsnoc _ _ _ h
    exact hc m t (ih p) e
theorem gr_infN {E : Nat → Nat → Prop} {t : Nat} (h : gr_inf E t) : ∃ u, E t u ∧ gr_inf E u := by
  obtain ⟨S, h1, h2⟩ := h
  obtain ⟨u, e, hu⟩ := h2 t h1
  exact ⟨u, e, S, hu, h2⟩
