section
/-! ===== counting: the number of places below n at which P holds ===== -/
noncomputable def gr_sz (P : Nat → Prop) : Nat → Nat
  | 0 => 0
  | n + 1 => gr_sz P n + @ite Nat (P n) (Classical.propDecidable (P n)) 1 0
theorem gr_sz_le (P : Nat → Prop) : ∀ n, gr_sz P n ≤ n := by
  intro n
  induction n with
  | zero => exact Nat.le_refl 0
  | succ n ih =>
    simp only [gr_sz]
    by_cases p : P n
    · rw [if_pos p]; omega
    · rw [if_neg p]; omega
theorem gr_sz_mono {P Q : Nat → Prop} : ∀ n, (∀ i, i < n → P i → Q i) → gr_sz P n ≤ gr_sz Q n := by
  intro n
  induction n with
  | zero => intro _; exact Nat.le_refl 0
  | succ n ih =>
    intro h
    have h1 := ih (fun i hi => h i (by omega))
    have h2 := h n (by omega)
    simp only [gr_sz]
    by_cases p : P n
    · rw [if_pos p, if_pos (h2 p)]; omega
    · rw [if_neg p]
      by_cases q : Q n
      · rw [if_pos q]; omega
      · rw [if_neg q]; omega
theorem gr_sz_lt {P Q : Nat → Prop} : ∀ n, (∀ i, i < n → P i → Q i) → ∀ j, j < n → Q j → ¬ P j → gr_sz P n < gr_sz Q n := by
  intro n
  induction n with
  | zero => intro _ j hj; omega
  | succ n ih =>
    intro h j hj hq hp
    have h2 := h n (by omega)
    simp only [gr_sz]
    by_cases e : j = n
    · subst e
      have h1 := gr_sz_mono j (fun i hi => h i (by omega))
      rw [if_neg hp, if_pos hq]; omega
    · have h1 := ih (fun i hi => h i (by omega)) j (by omega) hq hp
      by_cases p : P n
      · rw [if_pos p, if_pos (h2 p)]; omega
      · rw [if_neg p]
        by_cases q : Q n
        · rw [if_pos q]; omega
        · rw [if_neg q]; omega
theorem gr_sz_full {P : Nat → Prop} {n : Nat} (h : n ≤ gr_sz P n) (i : Nat) (hi : i < n) : P i := by
  by_cases p : P i
  · exact p
  · have h1 := gr_sz_lt (P := P) (Q := fun _ => True) n (fun _ _ _ => trivial) i hi trivial p
    have h2 := gr_sz_le (fun _ => True) n
    omega
theorem gr_sz_pos {P : Nat → Prop} {n i : Nat} (hi : i < n) (p : P i) : 0 < gr_sz P n := by
  have h1 := gr_sz_lt (P := fun _ => False) (Q := P) n (fun _ _ z => z.elim) i hi p (fun z => z)
  omega
/-! ===== paths ===== -/
def gr_pth (E : Nat → Nat → Prop) : Nat → Nat → Nat → Prop
  | 0, s, t => s = t
  | n + 1, s, t => ∃ m, E s m ∧ gr_pth E n m t
def gr_R (E : Nat → Nat → Prop) (s t : Nat) : Prop := ∃ n, gr_pth E n s t
def gr_P (E : Nat → Nat → Prop) (s t : Nat) : Prop := ∃ n, gr_pth E (n + 1) s t
def gr_inf (E : Nat → Nat → Prop) (t : Nat) : Prop := ∃ S : Nat → Prop, S t ∧ ∀ x, S x → ∃ y, E x y ∧ S y
theorem gr_add {E : Nat → Nat → Prop} : ∀ a b s m t, gr_pth E a s m → gr_pth E b m t → gr_pth E (a + b) s t := by
  intro a
  induction a with
  | zero =>
    intro b s m t h1 h2
    have h1 : s = m := h1
    subst h1
    rw [Nat.zero_add]
    exact h2
  | succ a ih =>
    intro b s m t h1 h2
    obtain ⟨q, hq, h1⟩ := h1
    rw [show a + 1 + b = (a + b) + 1 from by omega]
    exact ⟨q, hq, ih b q m t h1 h2⟩
theorem gr_one {E : Nat → Nat → Prop} {s t : Nat} (h : E s t) : gr_pth E 1 s t := ⟨t, h, rfl⟩
theorem gr_snoc {E : Nat → Nat → Prop} {n s m t : Nat} (h : gr_pth E n s m) (e : E m t) : gr_pth E (n + 1) s t := gr_add n 1 s m t h (gr_one e)
theorem gr_unsnoc {E : Nat → Nat → Prop} : ∀ n s t, gr_pth E (n + 1) s t → ∃ m, gr_pth E n s m ∧ E m t := by
  intro n
  induction n with
  | zero =>
    intro s t h
    obtain ⟨m, hm, h⟩ := h
    have h : m = t := h
    subst h
    exact ⟨s, rfl, hm⟩
  | succ n ih =>
    intro s t h
    obtain ⟨m, hm, h⟩ := h
    obtain ⟨q, h1, h2⟩ := ih m t h
    exact ⟨q, ⟨m, hm, h1⟩, h2⟩
theorem gr_Rr {E : Nat → Nat → Prop} (s : Nat) : gr_R E s s := ⟨0, rfl⟩
theorem gr_Rt {E : Nat → Nat → Prop} {a b c : Nat} (h : gr_R E a b) (g : gr_R E b c) : gr_R E a c := by
  obtain ⟨n, h⟩ := h
  obtain ⟨m, g⟩ := g
  exact ⟨n + m, gr_add n m a b c h g⟩
theorem gr_Rs {E : Nat → Nat → Prop} {a b c : Nat} (h : gr_R E a b) (g : E b c) : gr_R E a c := gr_Rt h ⟨1, gr_one g⟩
theorem gr_PR {E : Nat → Nat → Prop} {a b : Nat} (h : gr_P E a b) : gr_R E a b := h.elim (fun n h => ⟨n + 1, h⟩)
theorem gr_RP {E : Nat → Nat → Prop} {a b : Nat} : gr_R E a b ↔ (gr_P E a b ∨ a = b) := by
  constructor
  · intro h
    obtain ⟨n, h⟩ := h
    cases n with
    | zero => exact Or.inr h
    | succ n => exact Or.inl ⟨n, h⟩
  · intro h
    rcases h with h | h
    · exact gr_PR h
    · subst h; exact gr_Rr a
theorem gr_in {E : Nat → Nat → Prop} (hE : ∀ x y, E x y → y < 64) : ∀ n s t, s < 64 → gr_pth E n s t → t < 64 := by
  intro n
  induction n with
  | zero => intro s t hs h; have h : s = t := h; omega
  | succ n ih =>
    intro s t _ h
    obtain ⟨m, hm, h⟩ := h
    exact ih m t (hE _ _ hm) h
theorem gr_infP {E : Nat → Nat → Prop} {S : Nat → Prop} (hS : ∀ x, S x → ∃ y, E x y ∧ S y) : ∀ n t, S t → ∃ u, gr_pth E n t u ∧ S u := by
  intro n
  induction n with
  | zero => intro t h; exact ⟨t, rfl, h⟩
  | succ n ih =>
    intro t h
    obtain ⟨y, e, hy⟩ := hS t h
    obtain ⟨u, p, hu⟩ := ih y hy
    exact ⟨u, ⟨y, e, p⟩, hu⟩
/-- without a cycle on the way what can be come to shrinks with every step -/
theorem gr_desc {E : Nat → Nat → Prop} (hE : ∀ x y, E x y → y < 64) (s : Nat) (hc : ∀ t, gr_R E s t → ¬ gr_P E t t) : ∀ n x y, gr_R E s x → x < 64 → gr_pth E n x y → gr_sz (gr_R E y) 64 + n ≤ gr_sz (gr_R E x) 64 := by
  intro n
  induction n with
  | zero =>
    intro x y _ _ h
    have h : x = y := h
    subst h
    omega
  | succ n ih =>
    intro x y hx hl h
    obtain ⟨m, e, h⟩ := h
    have h1 := ih m y (gr_Rs hx e) (hE _ _ e) h
    have h2 : gr_sz (gr_R E m) 64 < gr_sz (gr_R E x) 64 := by
      refine gr_sz_lt 64 (fun i _ hi => gr_Rt ⟨1, gr_one e⟩ hi) x hl (gr_Rr x) (fun z => ?_)
      obtain ⟨k, z⟩ := z
      exact hc x hx ⟨k, m, e, z⟩
    omega
theorem gr_cyc {E : Nat → Nat → Prop} (hE : ∀ x y, E x y → y < 64) {s u : Nat} (hs : s < 64) (h : gr_pth E 64 s u) : ∃ t, gr_R E s t ∧ gr_P E t t := by
  apply Classical.byContradiction
  intro z
  have hc : ∀ t, gr_R E s t → ¬ gr_P E t t := fun t h1 h2 => z ⟨t, h1, h2⟩
  have h1 := gr_desc hE s hc 64 s u (gr_Rr s) hs h
  have h2 := gr_sz_le (gr_R E s) 64
  have h3 := gr_sz_pos (P := gr_R E u) (gr_in hE 64 s u hs h) (gr_Rr u)
  omega
theorem gr_cycInf {E : Nat → Nat → Prop} {t : Nat} (h : gr_P E t t) : gr_inf E t := by
  refine ⟨fun x => gr_R E x t, gr_Rr t, ?_⟩
  intro x hx
  have h2 : ∃ n, gr_pth E (n + 1) x t := by
    obtain ⟨n, hx⟩ := hx
    cases n with
    | zero => have hx : x = t := hx; subst hx; exact h
    | succ n => exact ⟨n, hx⟩
  obtain ⟨n, y, e, p⟩ := h2
  exact ⟨y, e, n, p⟩
theorem gr_A {E : Nat → Nat → Prop} (hE : ∀ x y, E x y → y < 64) {s : Nat} (hs : s < 64) : (∃ t, gr_R E s t ∧ gr_P E t t) ↔ ∃ t, gr_R E s t ∧ gr_inf E t := by
  constructor
  · intro h
    obtain ⟨t, h1, h2⟩ := h
    exact ⟨t, h1, gr_cycInf h2⟩
  · intro h
    obtain ⟨t, h1, S, h2, h3⟩ := h
    obtain ⟨u, p, _⟩ := gr_infP h3 64 t h2
    have ht : t < 64 := by
      obtain ⟨n, h1⟩ := h1
      exact gr_in hE n s t hs h1
    obtain ⟨q, h4, h5⟩ := gr_cyc hE ht p
    exact ⟨q, gr_Rt h1 h4, h5⟩
theorem gr_B {E : Nat → Nat → Prop} {T : Nat → Prop} (hE : ∀ x y, E x y → y < 64) (hT : ∀ x y, E x y → T x) {s : Nat} (hs : s < 64) : (∃ t, gr_R E s t ∧ ∃ u, gr_pth E 64 t u ∧ T u) ↔ ∃ t, gr_R E s t ∧ gr_inf E t := by
  constructor
  · intro h
    obtain ⟨t, h1, u, p, _⟩ := h
    have ht : t < 64 := by
      obtain ⟨n, h1⟩ := h1
      exact gr_in hE n s t hs h1
    obtain ⟨q, h4, h5⟩ := gr_cyc hE ht p
    exact ⟨q, gr_Rt h1 h4, gr_cycInf h5⟩
  · intro h
    obtain ⟨t, h1, S, h2, h3⟩ := h
    obtain ⟨u, p, hu⟩ := gr_infP h3 64 t h2
    obtain ⟨y, e, _⟩ := h3 u hu
    exact ⟨t, h1, u, p, hT u y e⟩
/-! ===== all that can be come to is come to within 64 steps ===== -/
theorem gr_short {E : Nat → Nat → Prop} (hE : ∀ x y, E x y → y < 64) {s t : Nat} (hs : s < 64) (h : gr_P E s t) : ∃ k, k < 64 ∧ gr_pth E (k + 1) s t := by
  have hcl : ∀ k, (∀ t, (∃ j, j < k + 1 ∧ gr_pth E (j + 1) s t) → ∃ j, j < k ∧ gr_pth E (j + 1) s t) ∨ k ≤ gr_sz (fun t => ∃ j, j < k ∧ gr_pth E (j + 1) s t) 64 := by
    intro k
    induction k with
    | zero => exact Or.inr (Nat.zero_le _)
    | succ k ih =>
      by_cases c : ∀ t, (∃ j, j < k + 1 ∧ gr_pth E (j + 1) s t) → ∃ j, j < k ∧ gr_pth E (j + 1) s t
      · refine Or.inl (fun t ht => ?_)
        obtain ⟨j, hj, p⟩ := ht
        by_cases e : j = k + 1
        · subst e
          obtain ⟨m, p1, p2⟩ := gr_unsnoc _ _ _ p
          obtain ⟨i, hi, p3⟩ := c m ⟨k, by omega, p1⟩
          exact ⟨i + 1, by omega, gr_snoc p3 p2⟩
        · exact ⟨j, by omega, p⟩
      · rcases ih with ih | ih
        · exact absurd ih c
        · refine Or.inr ?_
          have hx : ∃ t, (∃ j, j < k + 1 ∧ gr_pth E (j + 1) s t) ∧ ¬ ∃ j, j < k ∧ gr_pth E (j + 1) s t := by
            apply Classical.byContradiction
            intro z
            exact c (fun t h1 => Classical.byContradiction (fun h2 => z ⟨t, h1, h2⟩))
          obtain ⟨t, h1, h2⟩ := hx
          have ht : t < 64 := by
            obtain ⟨j, _, p⟩ := h1
            exact gr_in hE _ s t hs p
          have h3 := gr_sz_lt (P := fun t => ∃ j, j < k ∧ gr_pth E (j + 1) s t) (Q := fun t => ∃ j, j < k + 1 ∧ gr_pth E (j + 1) s t) 64 (fun i _ hi => by
            obtain ⟨j, hj, p⟩ := hi
            exact ⟨j, by omega, p⟩) t ht h1 h2
          omega
  have h64 : ∀ t, (∃ j, j < 65 ∧ gr_pth E (j + 1) s t) → ∃ j, j < 64 ∧ gr_pth E (j + 1) s t := by
    rcases hcl 64 with c | c
    · exact c
    · intro t ht
      have hl : t < 64 := by
        obtain ⟨j, _, p⟩ := ht
        exact gr_in hE _ s t hs p
      exact gr_sz_full c t hl
  obtain ⟨n, h⟩ := h
  induction n generalizing t with
  | zero => exact ⟨0, by omega, h⟩
  | succ n ih =>
    obtain ⟨m, p, e⟩ := gr_unsnoc _ _ _ h
    obtain ⟨j, hj, q⟩ := ih p
    exact h64 t ⟨j + 1, by omega, gr_snoc q e⟩
/-! ===== closing step by step ===== -/
def gr_ws (E : Nat → Nat → Prop) : Nat → Nat → Nat → Prop
  | 0, s, t => E s t
  | m + 1, s, t => gr_ws E m s t ∨ (gr_ws E m s m ∧ gr_ws E m m t)
theorem gr_ws_P {E : Nat → Nat → Prop} : ∀ m s t, gr_ws E m s t → gr_P E s t := by
  intro m
  induction m with
  | zero => intro s t h; exact ⟨0, gr_one h⟩
  | succ m ih =>
    intro s t h
    rcases h with h | ⟨h1, h2⟩
    · exact ih s t h
    · obtain ⟨a, h1⟩ := ih _ _ h1
      obtain ⟨b, h2⟩ := ih _ _ h2
      have h3 := gr_add _ _ _ _ _ h1 h2
      rw [show a + 1 + (b + 1) = (a + 1 + b) + 1 from by omega] at h3
      exact ⟨_, h3⟩
theorem gr_ws_t {E : Nat → Nat → Prop} : ∀ m s x t, x < m → gr_ws E m s x → gr_ws E m x t → gr_ws E m s t := by
  intro m
  induction m with
  | zero => intro s x t h; omega
  | succ m ih =>
    intro s x t hx h1 h2
    by_cases e : x = m
    · subst e
      have a : gr_ws E x s x := by
        rcases h1 with h | h
        · exact h
        · exact h.1
      have b : gr_ws E x x t := by
        rcases h2 with h | h
        · exact h
        · exact h.2
      exact Or.inr ⟨a, b⟩
    · have hx : x < m := by omega
      rcases h1 with h1 | ⟨h1, h3⟩
      · rcases h2 with h2 | ⟨h2, h4⟩
        · exact Or.inl (ih s x t hx h1 h2)
        · exact Or.inr ⟨ih s x m hx h1 h2, h4⟩
      · rcases h2 with h2 | ⟨h2, h4⟩
        · exact Or.inr ⟨h1, ih m x t hx h3 h2⟩
        · exact Or.inr ⟨h1, h4⟩
theorem gr_ws_E {E : Nat → Nat → Prop} {s t : Nat} (h : E s t) : ∀ m, gr_ws E m s t := by
  intro m
  induction m with
  | zero => exact h
  | succ m ih => exact Or.inl ih
theorem gr_ws_64 {E : Nat → Nat → Prop} (hE : ∀ x y, E x y → y < 64) {s t : Nat} : gr_ws E 64 s t ↔ gr_P E s t := by
  constructor
  · exact gr_ws_P 64 s t
  · intro h
    obtain ⟨n, h⟩ := h
    induction n generalizing t with
    | zero =>
      obtain ⟨m, e, h⟩ := h
      have h : m = t := h
      subst h
      exact gr_ws_E e 64
    | succ n ih =>
      obtain ⟨m, p, e⟩ := gr_unsnoc _ _ _ h
      have hm : m < 64 := by
        obtain ⟨q, _, e2⟩ := gr_unsnoc _ _ _ p
        exact hE _ _ e2
      exact gr_ws_t 64 s m t hm (ih p) (gr_ws_E e 64)
/-- a set that holds s, holds no more than can be come to, and is closed, is what can be come to -/
theorem gr_clo {E : Nat → Nat → Prop} {B : Nat → Prop} {s : Nat} (h0 : B s) (hc : ∀ t u, B t → E t u → B u) {t : Nat} (h : gr_R E s t) : B t := by
  obtain ⟨n, h⟩ := h
  induction n generalizing t with
  | zero => have h : s = t := h; subst h; exact h0
  | succ n ih =>
    obtain ⟨m, p, e⟩ := gr_unsnoc _ _ _ h
    exact hc m t (ih p) e
theorem gr_infN {E : Nat → Nat → Prop} {t : Nat} (h : gr_inf E t) : ∃ u, E t u ∧ gr_inf E u := by
  obtain ⟨S, h1, h2⟩ := h
  obtain ⟨u, e, hu⟩ := h2 t h1
  exact ⟨u, e, S, hu, h2⟩
end
section
/-! ===== stores, small numbers (rows of the kit's papers) ===== -/
theorem pk_us {f : Nat → Int32} {k : Nat} {x : Int32} : upd f k x k = x := if_pos rfl
theorem pk_un {f : Nat → Int32} {k j : Nat} {x : Int32} (h : j ≠ k) : upd f k x j = f j := if_neg h
theorem pk_uLs {f : Nat → Int64} {k : Nat} {x : Int64} : vp_updL f k x k = x := if_pos rfl
theorem pk_uLn {f : Nat → Int64} {k j : Nat} {x : Int64} (h : j ≠ k) : vp_updL f k x j = f j := if_neg h
theorem pk_mul (a b : Nat) : nI a * nI b = nI (a * b) := (Int32.ofNat_mul a b).symm
theorem pk_le {x y : Int32} {A B : Prop} (a b : Nat) (f : a ≤ b → A) (g : b < a → B) (hx : x = nI a := by rfl) (hy : y = nI b := by rfl) (ha : a < 2 ^ 31 := by omega) (hb : b < 2 ^ 31 := by omega) : (x ≤ y → A) ∧ (¬ x ≤ y → B) := by
  subst hx hy
  rw [nI_leI ha hb]
  exact ⟨f, fun z => g (by omega)⟩
theorem pk_lt {x y : Int32} {A B : Prop} (a b : Nat) (f : a < b → A) (g : b ≤ a → B) (hx : x = nI a := by rfl) (hy : y = nI b := by rfl) (ha : a < 2 ^ 31 := by omega) (hb : b < 2 ^ 31 := by omega) : (x < y → A) ∧ (¬ x < y → B) := by
  subst hx hy
  rw [nI_ltI ha hb]
  exact ⟨f, fun z => g (by omega)⟩
theorem pk_eq {x y : Int32} {A B : Prop} (a b : Nat) (f : a = b → A) (g : a ≠ b → B) (hx : x = nI a := by rfl) (hy : y = nI b := by rfl) (ha : a < 2 ^ 31 := by omega) (hb : b < 2 ^ 31 := by omega) : (x = y → A) ∧ (¬ x = y → B) := by
  subst hx hy
  rw [nI_eq ha hb]
  exact ⟨f, g⟩
theorem pk_in {x : Int32} (n N : Nat) (h : n < N) (hx : x = nI n := by rfl) (hN : N < 2 ^ 31 := by omega) : vp_in x N := by
  subst hx
  exact vp_in_nI h hN
theorem pk_cl {x : Int32} (n : Nat) (hx : x = nI n := by rfl) (h : n < 2 ^ 31 := by omega) : x.toNatClampNeg = n := by
  subst hx
  exact nI_clamp h
theorem pk_ix (x : Int32) {n : Nat} (hn : n < 2 ^ 31) : x < 0 ∨ nI n ≤ x ∨ ∃ j : Nat, j < n ∧ x = nI j := by
  by_cases h : x < 0
  · exact Or.inl h
  · obtain ⟨j, hj, rfl⟩ := nI_of h
    by_cases h2 : j < n
    · exact Or.inr (Or.inr ⟨j, h2, rfl⟩)
    · exact Or.inr (Or.inl (nI_le (by omega) hj))
theorem pk_m1 (n : Nat) : nI (n + 1) + (-1) = nI n := by
  rw [← nI_1, Int32.add_assoc, show (1 : Int32) + (-1) = 0 from rfl, Int32.add_zero]
theorem ek_if {c d A B : Prop} (e : c ↔ d) (f : d → A) (g : ¬ d → B) : (c → A) ∧ (¬ c → B) := ⟨fun h => f (e.mp h), fun h => g (fun z => h (e.mpr z))⟩
/-! ===== a long as a set of states ===== -/
def lb_b (w : Int64) (j : Nat) : Prop := w.toBitVec.getLsbD j = true
theorem lb_lt {w : Int64} {j : Nat} (h : lb_b w j) : j < 64 := by
  rcases Nat.lt_or_ge j 64 with z | z
  · exact z
  · have h : w.toBitVec.getLsbD j = true := h
    rw [BitVec.getLsbD_of_ge _ _ z] at h
    exact absurd h (by decide)
theorem lb_ext {x y : Int64} (h : ∀ j, j < 64 → (lb_b x j ↔ lb_b y j)) : x = y := by
  apply Int64.toBitVec_inj.mp
  apply BitVec.eq_of_getLsbD_eq
  intro i hi
  have g : x.toBitVec.getLsbD i = true ↔ y.toBitVec.getLsbD i = true := h i hi
  exact Bool.eq_iff_iff.mpr g
theorem lb_or (x y : Int64) (j : Nat) : lb_b (x ||| y) j ↔ (lb_b x j ∨ lb_b y j) := by
  unfold lb_b
  rw [Int64.toBitVec_or, BitVec.getLsbD_or, Bool.or_eq_true]
theorem lb_and (x y : Int64) (j : Nat) : lb_b (x &&& y) j ↔ (lb_b x j ∧ lb_b y j) := by
  unfold lb_b
  rw [Int64.toBitVec_and, BitVec.getLsbD_and, Bool.and_eq_true]
theorem lb_not (x : Int64) {j : Nat} (hj : j < 64) : lb_b (x ^^^ (-1)) j ↔ ¬ lb_b x j := by
  have ha : (-1 : Int64).toBitVec = BitVec.allOnes 64 := by decide
  unfold lb_b
  rw [Int64.toBitVec_xor, ha, BitVec.getLsbD_xor, BitVec.getLsbD_allOnes, decide_eq_true hj]
  cases x.toBitVec.getLsbD j <;> decide
theorem lb_0 (j : Nat) : ¬ lb_b 0 j := by
  intro h
  have h : (0#64).getLsbD j = true := h
  rw [BitVec.getLsbD_zero] at h
  exact absurd h (by decide)
theorem lb_m1 {j : Nat} (hj : j < 64) : lb_b (-1) j := by
  have ha : (-1 : Int64).toBitVec = BitVec.allOnes 64 := by decide
  unfold lb_b
  rw [ha, BitVec.getLsbD_allOnes, decide_eq_true hj]
theorem lb_nz {x : Int64} : ¬ x = 0 ↔ ∃ j, j < 64 ∧ lb_b x j := by
  constructor
  · intro h
    apply Classical.byContradiction
    intro z
    apply h
    apply lb_ext
    intro j hj
    exact ⟨fun hb => absurd ⟨j, hj, hb⟩ z, fun hb => absurd hb (lb_0 j)⟩
  · intro h z
    obtain ⟨j, _, hb⟩ := h
    rw [z] at hb
    exact lb_0 j hb
theorem lb_z {x : Int64} : x = 0 ↔ ¬ ∃ j, j < 64 ∧ lb_b x j := by
  rw [← lb_nz]
  exact ⟨fun h z => z h, fun h => Classical.byContradiction h⟩
theorem lb_tp : ∀ l, l < 64 → ((1 : Int64) <<< ((nI l).toInt64 &&& 63)).toBitVec = BitVec.twoPow 64 l := by decide +kernel
theorem lb_shl {l : Nat} (hl : l < 64) (j : Nat) : lb_b ((1 : Int64) <<< ((nI l).toInt64 &&& 63)) j ↔ j = l := by
  unfold lb_b
  rw [lb_tp l hl, BitVec.getLsbD_twoPow]
  constructor
  · intro h
    have h := (Bool.and_eq_true _ _).mp h
    exact (of_decide_eq_true h.2).symm
  · intro h
    subst h
    rw [decide_eq_true hl, decide_eq_true rfl]
    rfl
theorem lb_cu : ∀ k, k < 64 → ((nI k).toInt64.toUInt64 &&& Int64.toUInt64 63).toNat = k := by decide +kernel
theorem lb_bv {w : Int64} {s : UInt64} {j : Nat} (hj : j < 64) (hs : s.toNat = j) : ((w.toUInt64 >>> s).toInt64 &&& 1) = if w.toBitVec.getLsbD j = true then 1 else 0 := by
  have e : (w.toUInt64 >>> s).toInt64.toBitVec = w.toBitVec >>> j := by
    apply BitVec.eq_of_toNat_eq
    show (w.toUInt64 >>> s).toNat = _
    rw [UInt64.toNat_shiftRight, hs, Nat.mod_eq_of_lt hj, BitVec.toNat_ushiftRight]
    rfl
  apply Int64.toBitVec_inj.mp
  rw [Int64.toBitVec_and, e]
  by_cases h : w.toBitVec.getLsbD j = true
  · rw [if_pos h]
    show w.toBitVec >>> j &&& 1#64 = 1#64
    apply BitVec.eq_of_getLsbD_eq
    intro i hi
    cases i with
    | zero => simp [h]
    | succ i => simp
  · rw [if_neg h]
    have h : w.toBitVec.getLsbD j = false := Bool.eq_false_iff.mpr h
    show w.toBitVec >>> j &&& 1#64 = 0#64
    apply BitVec.eq_of_getLsbD_eq
    intro i hi
    cases i with
    | zero => simp [h]
    | succ i => simp
theorem lb_t0 {w : Int64} {j : Nat} (hj : j < 64) : ((w.toUInt64 >>> ((nI j).toInt64.toUInt64 &&& Int64.toUInt64 63)).toInt64 &&& 1) = 0 ↔ ¬ lb_b w j := by
  rw [lb_bv hj (lb_cu j hj)]
  unfold lb_b
  by_cases h : w.toBitVec.getLsbD j = true
  · rw [if_pos h]
    exact ⟨fun z => absurd z (by decide), fun z => absurd h z⟩
  · rw [if_neg h]
    exact ⟨fun _ => h, fun _ => rfl⟩
theorem lb_t1 {w : Int64} {j : Nat} (hj : j < 64) : ((w.toUInt64 >>> ((nI j).toInt64.toUInt64 &&& Int64.toUInt64 63)).toInt64 &&& 1) = 1 ↔ lb_b w j := by
  rw [lb_bv hj (lb_cu j hj)]
  unfold lb_b
  by_cases h : w.toBitVec.getLsbD j = true
  · rw [if_pos h]
    exact ⟨fun _ => h, fun _ => rfl⟩
  · rw [if_neg h]
    exact ⟨fun z => absurd z (by decide), fun z => absurd z h⟩
/-! ===== truth as 0 and 1 ===== -/
noncomputable def lb_i (P : Prop) : Int32 := @ite Int32 P (Classical.propDecidable P) 1 0
theorem lb_i1 {P : Prop} (h : P) : lb_i P = 1 := if_pos h
theorem lb_i0 {P : Prop} (h : ¬ P) : lb_i P = 0 := if_neg h
theorem lb_iz {P : Prop} : lb_i P = 0 ↔ ¬ P := by
  by_cases h : P
  · rw [lb_i1 h]; exact ⟨fun z => absurd z (by decide), fun z => absurd h z⟩
  · rw [lb_i0 h]; exact ⟨fun _ => h, fun _ => rfl⟩
theorem lb_in {P : Prop} : ¬ lb_i P = 0 ↔ P := by
  rw [lb_iz]
  exact ⟨fun h => Classical.byContradiction h, fun h z => z h⟩
theorem lb_ic {P Q : Prop} (h : P ↔ Q) : lb_i P = lb_i Q := by rw [propext h]
theorem lb_ie {P Q : Prop} : lb_i P = lb_i Q ↔ (P ↔ Q) := by
  constructor
  · intro h
    constructor
    · intro p
      rw [lb_i1 p] at h
      exact lb_in.mp (by rw [← h]; decide)
    · intro q
      rw [lb_i1 q] at h
      exact lb_in.mp (by rw [h]; decide)
  · exact lb_ic
theorem lb_01 (P : Prop) : lb_i P = 0 ∨ lb_i P = 1 := by
  by_cases h : P
  · exact Or.inr (lb_i1 h)
  · exact Or.inl (lb_i0 h)
theorem lb_nar (P : Prop) : narrow .boolean (.int (lb_i P)) = .int (lb_i P) := by
  rcases lb_01 P with h | h <;> rw [h] <;> rfl
theorem lb_vn (P : Prop) : vp_nar .boolean (lb_i P) = lb_i P := by
  unfold vp_nar
  rw [lb_nar]
theorem lb_v0 : vp_nar .boolean 0 = 0 := rfl
theorem lb_v1 : vp_nar .boolean 1 = 1 := rfl
/-! ===== counting and the member number k ===== -/
theorem lb_szc {P Q : Nat → Prop} {n : Nat} (h : ∀ i, i < n → (P i ↔ Q i)) : gr_sz P n = gr_sz Q n :=
  Nat.le_antisymm (gr_sz_mono n (fun i hi => (h i hi).mp)) (gr_sz_mono n (fun i hi => (h i hi).mpr))
theorem lb_szt {P : Nat → Prop} {n : Nat} (h : P n) : gr_sz P (n + 1) = gr_sz P n + 1 := by
  show gr_sz P n + _ = _
  rw [if_pos h]
theorem lb_szf {P : Nat → Prop} {n : Nat} (h : ¬ P n) : gr_sz P (n + 1) = gr_sz P n := by
  show gr_sz P n + _ = _
  rw [if_neg h, Nat.add_zero]
noncomputable def lb_mem (P : Nat → Prop) (k : Int32) : Nat → Nat → Nat → Int32
  | 0, _, _ => -3
  | d + 1, s, b => @ite Int32 (P s) (Classical.propDecidable _) (if nI b = k then nI s else lb_mem P k d (s + 1) (b + 1)) (lb_mem P k d (s + 1) b)
theorem lb_memf {P : Nat → Prop} {k : Int32} {d s b : Nat} (h : ¬ P s) : lb_mem P k (d + 1) s b = lb_mem P k d (s + 1) b := if_neg h
theorem lb_memt {P : Nat → Prop} {k : Int32} {d s b : Nat} (h : P s) (e : nI b = k) : lb_mem P k (d + 1) s b = nI s := (if_pos h).trans (if_pos e)
theorem lb_memn {P : Nat → Prop} {k : Int32} {d s b : Nat} (h : P s) (e : ¬ nI b = k) : lb_mem P k (d + 1) s b = lb_mem P k d (s + 1) (b + 1) := (if_pos h).trans (if_neg e)
theorem lb_memc {P Q : Nat → Prop} {k : Int32} : ∀ d s b, (∀ i, i < s + d → (P i ↔ Q i)) → lb_mem P k d s b = lb_mem Q k d s b := by
  intro d
  induction d with
  | zero => intro s b _; rfl
  | succ d ih =>
    intro s b h
    have h1 := h s (by omega)
    have h2 : ∀ b', lb_mem P k d (s + 1) b' = lb_mem Q k d (s + 1) b' := fun b' => ih (s + 1) b' (fun i hi => h i (by omega))
    by_cases p : P s
    · by_cases e : nI b = k
      · rw [lb_memt p e, lb_memt (h1.mp p) e]
      · rw [lb_memn p e, lb_memn (h1.mp p) e, h2]
    · rw [lb_memf p, lb_memf (fun q => p (h1.mpr q)), h2]
/-! ===== a row of an array filled from a place on ===== -/
def lb_fl (E : Nat → Int64) (b n : Nat) (V : Nat → Int64) : Nat → Int64 := fun j => if b ≤ j ∧ j < b + n then V (j - b) else E j
def lb_fi (E : Nat → Int32) (b n : Nat) (V : Nat → Int32) : Nat → Int32 := fun j => if b ≤ j ∧ j < b + n then V (j - b) else E j
theorem lb_fl0 (E : Nat → Int64) (b : Nat) (V : Nat → Int64) : lb_fl E b 0 V = E := by
  funext j
  exact if_neg (by omega)
theorem lb_fi0 (E : Nat → Int32) (b : Nat) (V : Nat → Int32) : lb_fi E b 0 V = E := by
  funext j
  exact if_neg (by omega)
theorem lb_flS (E : Nat → Int64) (b n : Nat) (V : Nat → Int64) : vp_updL (lb_fl E b n V) (b + n) (V n) = lb_fl E b (n + 1) V := by
  funext j
  show (if j = b + n then V n else if b ≤ j ∧ j < b + n then V (j - b) else E j) = if b ≤ j ∧ j < b + (n + 1) then V (j - b) else E j
  by_cases e : j = b + n
  · subst e
    rw [if_pos rfl, if_pos (by omega), Nat.add_sub_cancel_left]
  · rw [if_neg e]
    by_cases c : b ≤ j ∧ j < b + n
    · rw [if_pos c, if_pos (by omega)]
    · rw [if_neg c, if_neg (by omega)]
theorem lb_fiS (E : Nat → Int32) (b n : Nat) (V : Nat → Int32) : upd (lb_fi E b n V) (b + n) (V n) = lb_fi E b (n + 1) V := by
  funext j
  show (if j = b + n then V n else if b ≤ j ∧ j < b + n then V (j - b) else E j) = if b ≤ j ∧ j < b + (n + 1) then V (j - b) else E j
  by_cases e : j = b + n
  · subst e
    rw [if_pos rfl, if_pos (by omega), Nat.add_sub_cancel_left]
  · rw [if_neg e]
    by_cases c : b ≤ j ∧ j < b + n
    · rw [if_pos c, if_pos (by omega)]
    · rw [if_neg c, if_neg (by omega)]
theorem lb_flN {E : Nat → Int64} {b n j : Nat} {V : Nat → Int64} (h : j < b ∨ b + n ≤ j) : lb_fl E b n V j = E j := if_neg (by omega)
theorem lb_fiN {E : Nat → Int32} {b n j : Nat} {V : Nat → Int32} (h : j < b ∨ b + n ≤ j) : lb_fi E b n V j = E j := if_neg (by omega)
theorem lb_flI {E : Nat → Int64} {b n s : Nat} {V : Nat → Int64} (h : s < n) : lb_fl E b n V (b + s) = V s := by
  show (if b ≤ b + s ∧ b + s < b + n then V (b + s - b) else E (b + s)) = V s
  rw [if_pos (by omega), Nat.add_sub_cancel_left]
theorem lb_fiI {E : Nat → Int32} {b n s : Nat} {V : Nat → Int32} (h : s < n) : lb_fi E b n V (b + s) = V s := by
  show (if b ≤ b + s ∧ b + s < b + n then V (b + s - b) else E (b + s)) = V s
  rw [if_pos (by omega), Nat.add_sub_cancel_left]
theorem lb_flC {E : Nat → Int64} {b n : Nat} {V V' : Nat → Int64} (h : ∀ s, s < n → V s = V' s) : lb_fl E b n V = lb_fl E b n V' := by
  funext j
  show (if b ≤ j ∧ j < b + n then V (j - b) else E j) = if b ≤ j ∧ j < b + n then V' (j - b) else E j
  by_cases c : b ≤ j ∧ j < b + n
  · rw [if_pos c, if_pos c, h _ (by omega)]
  · rw [if_neg c, if_neg c]
theorem lb_fiC {E : Nat → Int32} {b n : Nat} {V V' : Nat → Int32} (h : ∀ s, s < n → V s = V' s) : lb_fi E b n V = lb_fi E b n V' := by
  funext j
  show (if b ≤ j ∧ j < b + n then V (j - b) else E j) = if b ≤ j ∧ j < b + n then V' (j - b) else E j
  by_cases c : b ≤ j ∧ j < b + n
  · rw [if_pos c, if_pos c, h _ (by omega)]
  · rw [if_neg c, if_neg c]
theorem lb_uu {f : Nat → Int32} {k : Nat} {x y : Int32} : upd (upd f k x) k y = upd f k y := by
  funext j
  show (if j = k then y else if j = k then x else f j) = if j = k then y else f j
  by_cases e : j = k
  · rw [if_pos e, if_pos e]
  · rw [if_neg e, if_neg e, if_neg e]
theorem lb_uuL {f : Nat → Int64} {k : Nat} {x y : Int64} : vp_updL (vp_updL f k x) k y = vp_updL f k y := by
  funext j
  show (if j = k then y else if j = k then x else f j) = if j = k then y else f j
  by_cases e : j = k
  · rw [if_pos e, if_pos e]
  · rw [if_neg e, if_neg e, if_neg e]
theorem lb_us {f : Nat → Int32} {k : Nat} : upd f k (f k) = f := by
  funext j
  show (if j = k then f k else f j) = f j
  by_cases e : j = k
  · rw [if_pos e, e]
  · rw [if_neg e]
theorem lb_usL {f : Nat → Int64} {k : Nat} : vp_updL f k (f k) = f := by
  funext j
  show (if j = k then f k else f j) = f j
  by_cases e : j = k
  · rw [if_pos e, e]
  · rw [if_neg e]
/-! ===== the set of the states of which P holds ===== -/
noncomputable def lb_mk (P : Nat → Prop) : Nat → Int64
  | 0 => 0
  | n + 1 => @ite Int64 (P n) (Classical.propDecidable _) (lb_mk P n ||| ((1 : Int64) <<< ((nI n).toInt64 &&& 63))) (lb_mk P n)
theorem lb_mkb (P : Nat → Prop) : ∀ n, n ≤ 64 → ∀ j, lb_b (lb_mk P n) j ↔ (j < n ∧ P j) := by
  intro n
  induction n with
  | zero =>
    intro _ j
    exact ⟨fun h => absurd h (lb_0 j), fun h => by omega⟩
  | succ n ih =>
    intro hn j
    have h1 := ih (by omega) j
    by_cases p : P n
    · have e : lb_mk P (n + 1) = lb_mk P n ||| ((1 : Int64) <<< ((nI n).toInt64 &&& 63)) := if_pos p
      rw [e, lb_or, h1, lb_shl (by omega)]
      constructor
      · intro h
        rcases h with h | h
        · exact ⟨by omega, h.2⟩
        · subst h; exact ⟨by omega, p⟩
      · intro h
        by_cases e : j = n
        · exact Or.inr e
        · exact Or.inl ⟨by omega, h.2⟩
    · have e : lb_mk P (n + 1) = lb_mk P n := if_neg p
      rw [e, h1]
      constructor
      · intro h; exact ⟨by omega, h.2⟩
      · intro h
        by_cases e : j = n
        · subst e; exact absurd h.2 p
        · exact ⟨by omega, h.2⟩
noncomputable def lb_S (P : Nat → Prop) : Int64 := lb_mk P 64
theorem lb_Sb {P : Nat → Prop} {j : Nat} (hj : j < 64) : lb_b (lb_S P) j ↔ P j := by
  show lb_b (lb_mk P 64) j ↔ P j
  rw [lb_mkb P 64 (by omega) j]
  exact ⟨fun h => h.2, fun h => ⟨hj, h⟩⟩
theorem lb_Se {P : Nat → Prop} {w : Int64} (h : ∀ j, j < 64 → (lb_b w j ↔ P j)) : w = lb_S P := lb_ext (fun j hj => (h j hj).trans (lb_Sb hj).symm)
theorem lb_or0 (x : Int64) : 0 ||| x = x := by
  apply lb_ext
  intro j _
  rw [lb_or]
  exact ⟨fun h => h.elim (fun z => absurd z (lb_0 j)) id, Or.inr⟩
/-! ===== an index that is there ===== -/
def lb_x (n : Nat) (x : Int32) : Prop := ∃ j, j < n ∧ x = nI j
theorem lb_xI {n : Nat} (hn : n < 2 ^ 31) (x : Int32) : (0 ≤ x ∧ x < nI n) ↔ lb_x n x := by
  constructor
  · intro h
    obtain ⟨j, hj, e⟩ := nI_of (x := x) (Int32.not_lt.mpr h.1)
    subst e
    exact ⟨j, (nI_ltI hj hn).mp h.2, rfl⟩
  · intro h
    obtain ⟨j, hj, e⟩ := h
    subst e
    exact ⟨nI_pos' (by omega), nI_lt hj hn⟩
theorem lb_xn {n : Nat} {x : Int32} (h : ¬ lb_x n x) (hn : n < 2 ^ 31) : x < 0 ∨ nI n ≤ x := by
  rcases pk_ix x hn with z | z | z
  · exact Or.inl z
  · exact Or.inr z
  · exact absurd z h
theorem lb_xm {n : Nat} (hn : n < 2 ^ 30) : (nI n - 1).toInt = (n : Int) - 1 := by
  have h1 : (1 : Int32).toInt = 1 := by decide
  rw [Int32.toInt_sub, nI_toInt (by omega), h1]
  exact Int.bmod_eq_of_le (by omega) (by omega)
theorem lb_xJ {n : Nat} (hn : n < 2 ^ 30) (x : Int32) : (0 ≤ x ∧ x ≤ nI n - 1) ↔ lb_x n x := by
  have h0 : (0 : Int32).toInt = 0 := by decide
  constructor
  · intro h
    obtain ⟨j, hj, e⟩ := nI_of (x := x) (Int32.not_lt.mpr h.1)
    subst e
    have h2 := Int32.le_iff_toInt_le.mp h.2
    rw [lb_xm hn, nI_toInt hj] at h2
    exact ⟨j, by omega, rfl⟩
  · intro h
    obtain ⟨j, hj, e⟩ := h
    subst e
    refine ⟨nI_pos' (by omega), Int32.le_iff_toInt_le.mpr ?_⟩
    rw [lb_xm hn, nI_toInt (by omega)]
    omega
theorem lb_xK {n : Nat} (hn : n + 1 < 2 ^ 31) (x : Int32) : (0 ≤ x ∧ x ≤ nI n) ↔ lb_x (n + 1) x := by
  constructor
  · intro h
    obtain ⟨j, hj, e⟩ := nI_of (x := x) (Int32.not_lt.mpr h.1)
    subst e
    have := (nI_leI hj (by omega)).mp h.2
    exact ⟨j, by omega, rfl⟩
  · intro h
    obtain ⟨j, hj, e⟩ := h
    subst e
    exact ⟨nI_pos' (by omega), nI_le (by omega) (by omega)⟩
theorem lb_x0 {n : Nat} {x : Int32} (h : lb_x n x) (hn : n < 2 ^ 31) : ¬ x < 0 := by
  obtain ⟨j, hj, e⟩ := h
  subst e
  exact nI_pos (by omega)
end
section
/-! ===== what a loop's rounds can do: from t, where the test holds, to every end of the body ===== -/
def sp_e (E : Nat → Int64) (T : Int64) (y : Nat) : Nat → Nat → Prop := fun t u => lb_b T t ∧ lb_b (E (64 * y + t)) u
theorem sp_e64 {E : Nat → Int64} {T : Int64} {y : Nat} : ∀ t u, sp_e E T y t u → u < 64 := fun _ _ h => lb_lt h.2
theorem sp_eT {E : Nat → Int64} {T : Int64} {y : Nat} : ∀ t u, sp_e E T y t u → lb_b T t := fun _ _ h => h.1
theorem sp_R64 {E : Nat → Int64} {T : Int64} {y s t : Nat} (hs : s < 64) (h : gr_R (sp_e E T y) s t) : t < 64 := by
  obtain ⟨n, h⟩ := h
  exact gr_in sp_e64 n s t hs h
theorem sp_infT {E : Nat → Int64} {T : Int64} {y t : Nat} (h : gr_inf (sp_e E T y) t) : lb_b T t := by
  obtain ⟨u, e, _⟩ := gr_infN h
  exact e.1
noncomputable def sp_WE (E : Nat → Int64) (T : Int64) (y s : Nat) : Int64 := lb_S (fun u => gr_R (sp_e E T y) s u ∧ ¬ lb_b T u)
def sp_WF (E : Nat → Int64) (T f : Int64) (y s : Nat) : Prop := ∃ t, gr_R (sp_e E T y) s t ∧ lb_b T t ∧ lb_b f t
def sp_WG (E : Nat → Int64) (T g : Int64) (y s : Nat) : Prop := ∃ t, gr_R (sp_e E T y) s t ∧ lb_b T t ∧ (lb_b g t ∨ gr_inf (sp_e E T y) t)
/-- what both ways of working a loop out leave: what can be come to in one round or more, and states that stand for going on for ever -/
def sp_L (E : Nat → Int64) (T : Int64) (y : Nat) (q : Nat → Int64) (w : Int64) : Prop :=
  (∀ s, s < 64 → ∀ u, u < 64 → (lb_b (q s) u ↔ gr_P (sp_e E T y) s u)) ∧ ∀ s, s < 64 → ((∃ t, gr_R (sp_e E T y) s t ∧ lb_b w t) ↔ ∃ t, gr_R (sp_e E T y) s t ∧ gr_inf (sp_e E T y) t)
theorem sp_LR {E : Nat → Int64} {T : Int64} {y : Nat} {q : Nat → Int64} {w : Int64} (h : sp_L E T y q w) {s : Nat} (hs : s < 64) {u : Nat} (hu : u < 64) : lb_b (q s ||| ((1 : Int64) <<< ((nI s).toInt64 &&& 63))) u ↔ gr_R (sp_e E T y) s u := by
  rw [lb_or, h.1 s hs u hu, lb_shl hs, gr_RP]
  exact ⟨fun z => z.elim Or.inl (fun e => Or.inr e.symm), fun z => z.elim Or.inl (fun e => Or.inr e.symm)⟩
theorem sp_LE {E : Nat → Int64} {T : Int64} {y : Nat} {q : Nat → Int64} {w : Int64} (h : sp_L E T y q w) {s : Nat} (hs : s < 64) : (q s ||| ((1 : Int64) <<< ((nI s).toInt64 &&& 63))) &&& (T ^^^ (-1)) = sp_WE E T y s := by
  apply lb_Se
  intro j hj
  rw [lb_and, sp_LR h hs hj, lb_not T hj]
theorem sp_LF {E : Nat → Int64} {T f : Int64} {y : Nat} {q : Nat → Int64} {w : Int64} (h : sp_L E T y q w) {s : Nat} (hs : s < 64) : (¬ (q s ||| ((1 : Int64) <<< ((nI s).toInt64 &&& 63))) &&& (f &&& T) = 0) ↔ sp_WF E T f y s := by
  rw [lb_nz]
  constructor
  · intro z
    obtain ⟨j, hj, z⟩ := z
    rw [lb_and, lb_and, sp_LR h hs hj] at z
    exact ⟨j, z.1, z.2.2, z.2.1⟩
  · intro z
    obtain ⟨j, h1, h2, h3⟩ := z
    have hj := lb_lt h2
    refine ⟨j, hj, ?_⟩
    rw [lb_and, lb_and, sp_LR h hs hj]
    exact ⟨h1, h3, h2⟩
theorem sp_LG {E : Nat → Int64} {T g : Int64} {y : Nat} {q : Nat → Int64} {w : Int64} (h : sp_L E T y q w) {s : Nat} (hs : s < 64) : (¬ (q s ||| ((1 : Int64) <<< ((nI s).toInt64 &&& 63))) &&& (w ||| (g &&& T)) = 0) ↔ sp_WG E T g y s := by
  rw [lb_nz]
  constructor
  · intro z
    obtain ⟨j, hj, z⟩ := z
    rw [lb_and, sp_LR h hs hj, lb_or, lb_and] at z
    rcases z with ⟨z1, z2 | z2⟩
    · obtain ⟨t, h1, h2⟩ := (h.2 s hs).mp ⟨j, z1, z2⟩
      exact ⟨t, h1, sp_infT h2, Or.inr h2⟩
    · exact ⟨j, z1, z2.2, Or.inl z2.1⟩
  · intro z
    obtain ⟨t, h1, h2, h3⟩ := z
    rcases h3 with h3 | h3
    · have hj := lb_lt h2
      refine ⟨t, hj, ?_⟩
      rw [lb_and, sp_LR h hs hj, lb_or, lb_and]
      exact ⟨h1, Or.inr ⟨h3, h2⟩⟩
    · obtain ⟨j, h4, h5⟩ := (h.2 s hs).mpr ⟨t, h1, h3⟩
      have hj := lb_lt h5
      refine ⟨j, hj, ?_⟩
      rw [lb_and, sp_LR h hs hj, lb_or, lb_and]
      exact ⟨h4, Or.inl h5⟩
/-- walked round by round -/
theorem sp_walk {E : Nat → Int64} {T : Int64} {y : Nat} {q : Nat → Int64} {w : Int64} (h1 : ∀ s, s < 64 → ∀ u, u < 64 → (lb_b (q s) u ↔ ∃ k, k < 64 ∧ gr_pth (sp_e E T y) (k + 1) s u)) (h2 : ∀ s, s < 64 → (lb_b w s ↔ ∃ u, gr_pth (sp_e E T y) 64 s u ∧ lb_b T u)) : sp_L E T y q w := by
  constructor
  · intro s hs u hu
    rw [h1 s hs u hu]
    constructor
    · intro z
      obtain ⟨k, _, z⟩ := z
      exact ⟨k, z⟩
    · intro z
      exact gr_short sp_e64 hs z
  · intro s hs
    rw [← gr_B sp_e64 sp_eT hs]
    constructor
    · intro z
      obtain ⟨t, z1, z2⟩ := z
      exact ⟨t, z1, (h2 t (lb_lt z2)).mp z2⟩
    · intro z
      obtain ⟨t, z1, z2⟩ := z
      exact ⟨t, z1, (h2 t (sp_R64 hs z1)).mpr z2⟩
/-- closed once for all states -/
theorem sp_close {E : Nat → Int64} {T : Int64} {y : Nat} {q : Nat → Int64} {w : Int64} (h1 : ∀ s, s < 64 → ∀ u, u < 64 → (lb_b (q s) u ↔ gr_ws (sp_e E T y) 64 s u)) (h2 : ∀ s, s < 64 → (lb_b w s ↔ lb_b (q s) s)) : sp_L E T y q w := by
  have h3 : ∀ s, s < 64 → ∀ u, u < 64 → (lb_b (q s) u ↔ gr_P (sp_e E T y) s u) := fun s hs u hu => (h1 s hs u hu).trans (gr_ws_64 sp_e64)
  refine ⟨h3, ?_⟩
  intro s hs
  rw [← gr_A sp_e64 hs]
  constructor
  · intro z
    obtain ⟨t, z1, z2⟩ := z
    have ht := lb_lt z2
    exact ⟨t, z1, (h3 t ht t ht).mp ((h2 t ht).mp z2)⟩
  · intro z
    obtain ⟨t, z1, z2⟩ := z
    have ht := sp_R64 hs z1
    exact ⟨t, z1, (h2 t ht).mpr ((h3 t ht t ht).mpr z2)⟩
/-- one step of the walk -/
theorem sp_wstep {E : Nat → Int64} {T : Int64} {y s r : Nat} {now now' : Int64} (hs : s < 64) (h : ∀ u, u < 64 → (lb_b now u ↔ gr_pth (sp_e E T y) r s u)) (h' : ∀ u, u < 64 → (lb_b now' u ↔ ∃ t, t < 64 ∧ lb_b (now &&& T) t ∧ lb_b (E (64 * y + t)) u)) : ∀ u, u < 64 → (lb_b now' u ↔ gr_pth (sp_e E T y) (r + 1) s u) := by
  intro u hu
  rw [h' u hu]
  constructor
  · intro z
    obtain ⟨t, ht, z1, z2⟩ := z
    rw [lb_and, h t ht] at z1
    exact gr_snoc z1.1 ⟨z1.2, z2⟩
  · intro z
    obtain ⟨t, z1, z2⟩ := gr_unsnoc _ _ _ z
    have ht := lb_lt z2.1
    refine ⟨t, ht, ?_, z2.2⟩
    rw [lb_and, h t ht]
    exact ⟨z1, z2.1⟩
/-! ===== the six kinds of states ===== -/
def sp_K (E fs gs cs : Nat → Int64) (p c : Nat) (s : Nat) : Nat → Prop
  | 0 => ¬ lb_b (fs p) s ∧ ¬ lb_b (gs p) s ∧ ∀ t, t < 64 → lb_b (E (64 * p + s)) t → lb_b (cs c) t
  | 1 => ¬ lb_b (fs p) s ∧ ∀ t, t < 64 → lb_b (E (64 * p + s)) t → lb_b (cs c) t
  | 2 => ∃ t, t < 64 ∧ lb_b (E (64 * p + s)) t ∧ lb_b (cs c) t
  | 3 => lb_b (fs p) s
  | 4 => lb_b (gs p) s
  | _ => ¬ lb_b (fs p) s ∧ ¬ lb_b (gs p) s ∧ E (64 * p + s) = 0
theorem sp_meN {E cs : Nat → Int64} {p c s : Nat} : (¬ E (64 * p + s) &&& (cs c ^^^ (-1)) = 0) ↔ ¬ ∀ t, t < 64 → lb_b (E (64 * p + s)) t → lb_b (cs c) t := by
  rw [lb_nz]
  constructor
  · intro h z
    obtain ⟨j, hj, h⟩ := h
    rw [lb_and, lb_not _ hj] at h
    exact h.2 (z j hj h.1)
  · intro h
    apply Classical.byContradiction
    intro z
    apply h
    intro t ht hb
    apply Classical.byContradiction
    intro y
    apply z
    refine ⟨t, ht, ?_⟩
    rw [lb_and, lb_not _ ht]
    exact ⟨hb, y⟩
theorem sp_meP {E cs : Nat → Int64} {p c s : Nat} : (¬ E (64 * p + s) &&& cs c = 0) ↔ ∃ t, t < 64 ∧ lb_b (E (64 * p + s)) t ∧ lb_b (cs c) t := by
  rw [lb_nz]
  constructor
  · intro h
    obtain ⟨j, hj, h⟩ := h
    rw [lb_and] at h
    exact ⟨j, hj, h⟩
  · intro h
    obtain ⟨j, hj, h⟩ := h
    refine ⟨j, hj, ?_⟩
    rw [lb_and]
    exact h
theorem sp_meA {E : Nat → Int64} {p s : Nat} : (¬ E (64 * p + s) &&& (-1) = 0) ↔ ¬ E (64 * p + s) = 0 := by
  have e : E (64 * p + s) &&& (-1) = E (64 * p + s) := by
    apply lb_ext
    intro j hj
    rw [lb_and]
    exact ⟨fun h => h.1, fun h => ⟨h, lb_m1 hj⟩⟩
  rw [e]
end
section
/-! ===== reach: the states of w come to b; g tells whether one was new ===== -/
def sr_ri (w : Int64) (b : Nat → Int32) (g : Int32) (i : Nat) (b' : Nat → Int32) (g' : Int32) : Prop :=
  (∀ u, u < 64 → b' u = lb_i (¬ b u = 0 ∨ (u < i ∧ lb_b w u))) ∧ ((g' = g ∧ ∀ u, u < i → lb_b w u → ¬ b u = 0) ∨ (g' = 1 ∧ ∃ u, u < i ∧ lb_b w u ∧ b u = 0))
theorem sr_r0 {w : Int64} {b : Nat → Int32} {g : Int32} (h : ∀ u, u < 64 → b u = lb_i (¬ b u = 0)) : sr_ri w b g 0 b g := by
  refine ⟨fun u hu => ?_, Or.inl ⟨rfl, fun u hu => by omega⟩⟩
  refine (h u hu).trans (lb_ic ⟨Or.inl, fun z => z.elim id (fun z => ?_)⟩)
  exact absurd z.1 (by omega)
theorem sr_rn {w : Int64} {b b' : Nat → Int32} {g g' : Int32} {i : Nat} (h : sr_ri w b g i b' g') (n : ¬ lb_b w i) : sr_ri w b g (i + 1) b' g' := by
  obtain ⟨h1, h2⟩ := h
  refine ⟨fun u hu => ?_, ?_⟩
  · refine (h1 u hu).trans (lb_ic ⟨fun z => z.elim Or.inl (fun z => Or.inr ⟨by omega, z.2⟩), fun z => z.elim Or.inl (fun z => Or.inr ⟨?_, z.2⟩)⟩)
    by_cases e : u = i
    · subst e; exact absurd z.2 n
    · omega
  · rcases h2 with ⟨h2, h3⟩ | ⟨h2, u, h3, h4⟩
    · refine Or.inl ⟨h2, fun u hu hb => ?_⟩
      by_cases e : u = i
      · subst e; exact absurd hb n
      · exact h3 u (by omega) hb
    · exact Or.inr ⟨h2, u, by omega, h4⟩
theorem sr_ro {w : Int64} {b b' : Nat → Int32} {g g' : Int32} {i : Nat} (hi : i < 64) (h : sr_ri w b g i b' g') (n : ¬ b' i = 0) : sr_ri w b g (i + 1) b' g' := by
  obtain ⟨h1, h2⟩ := h
  have hb : ¬ b i = 0 := by
    rw [h1 i hi] at n
    exact (lb_in.mp n).elim id (fun z => absurd z.1 (by omega))
  refine ⟨fun u hu => ?_, ?_⟩
  · refine (h1 u hu).trans (lb_ic ⟨fun z => z.elim Or.inl (fun z => Or.inr ⟨by omega, z.2⟩), fun z => z.elim Or.inl (fun z => ?_)⟩)
    by_cases e : u = i
    · subst e; exact Or.inl hb
    · exact Or.inr ⟨by omega, z.2⟩
  · rcases h2 with ⟨h2, h3⟩ | ⟨h2, u, h3, h4⟩
    · refine Or.inl ⟨h2, fun u hu hw => ?_⟩
      by_cases e : u = i
      · subst e; exact hb
      · exact h3 u (by omega) hw
    · exact Or.inr ⟨h2, u, by omega, h4⟩
theorem sr_rt {w : Int64} {b b' : Nat → Int32} {g g' : Int32} {i : Nat} (hi : i < 64) (h : sr_ri w b g i b' g') (p : lb_b w i) (n : b' i = 0) : sr_ri w b g (i + 1) (upd b' i 1) 1 := by
  obtain ⟨h1, h2⟩ := h
  have hb : b i = 0 := by
    rw [h1 i hi] at n
    exact Classical.byContradiction (fun z => lb_iz.mp n (Or.inl z))
  refine ⟨fun u hu => ?_, Or.inr ⟨rfl, i, by omega, p, hb⟩⟩
  by_cases e : u = i
  · subst e
    rw [pk_us, lb_i1 (Or.inr ⟨by omega, p⟩)]
  · rw [pk_un e]
    exact (h1 u hu).trans (lb_ic ⟨fun z => z.elim Or.inl (fun z => Or.inr ⟨by omega, z.2⟩), fun z => z.elim Or.inl (fun z => Or.inr ⟨by omega, z.2⟩)⟩)
/-! ===== one pass of spread ===== -/
def sr_J (E : Nat → Int64) (T : Int64) (y s : Nat) (B : Nat → Prop) (i : Nat) (b : Nat → Int32) (g : Int32) : Prop :=
  ∃ Q : Nat → Prop, (∀ u, u < 64 → b u = lb_i (Q u)) ∧ (∀ u, B u → Q u) ∧ (∀ u, Q u → gr_R (sp_e E T y) s u) ∧ ((g = 0 ∧ (∀ u, Q u → B u) ∧ ∀ t u, t < i → B t → sp_e E T y t u → B u) ∨ (g = 1 ∧ gr_sz B 64 < gr_sz Q 64))
theorem sr_Jb {E : Nat → Int64} {T : Int64} {y s : Nat} {B : Nat → Prop} {i : Nat} {b : Nat → Int32} {g : Int32} (h : sr_J E T y s B i b g) : ∀ u, u < 64 → b u = lb_i (¬ b u = 0) := by
  obtain ⟨Q, h1, _⟩ := h
  intro u hu
  have e := h1 u hu
  exact e.trans (lb_ic ⟨fun q => by rw [e]; exact lb_in.mpr q, fun z => by rw [e] at z; exact lb_in.mp z⟩)
theorem sr_Jn {E : Nat → Int64} {T : Int64} {y s : Nat} {B : Nat → Prop} {i : Nat} {b : Nat → Int32} {g : Int32} (hi : i < 64) (h : sr_J E T y s B i b g) (n : b i = 0 ∨ ¬ lb_b T i) : sr_J E T y s B (i + 1) b g := by
  obtain ⟨Q, h1, h2, h3, h4⟩ := h
  refine ⟨Q, h1, h2, h3, ?_⟩
  rcases h4 with ⟨h4, h5, h6⟩ | h4
  · refine Or.inl ⟨h4, h5, fun t u ht hb he => ?_⟩
    by_cases e : t = i
    · subst e
      rcases n with n | n
      · rw [h1 t hi] at n
        exact absurd (h2 t hb) (lb_iz.mp n)
      · exact absurd he.1 n
    · exact h6 t u (by omega) hb he
  · exact Or.inr h4
theorem sr_Jr {E : Nat → Int64} {T : Int64} {y s : Nat} {B : Nat → Prop} {i : Nat} {b b' : Nat → Int32} {g g' : Int32} (hi : i < 64) (h : sr_J E T y s B i b g) (n : ¬ b i = 0) (p : lb_b T i) (r : sr_ri (E (64 * y + i)) b g 64 b' g') : sr_J E T y s B (i + 1) b' g' := by
  obtain ⟨Q, h1, h2, h3, h4⟩ := h
  obtain ⟨r1, r2⟩ := r
  have hQ : ∀ u, u < 64 → (¬ b u = 0 ↔ Q u) := fun u hu => by rw [h1 u hu]; exact lb_in
  have hi2 : Q i := (hQ i hi).mp n
  refine ⟨fun u => Q u ∨ lb_b (E (64 * y + i)) u, fun u hu => ?_, fun u hu => Or.inl (h2 u hu), fun u hu => ?_, ?_⟩
  · refine (r1 u hu).trans (lb_ic ?_)
    rw [hQ u hu]
    exact ⟨fun z => z.elim Or.inl (fun z => Or.inr z.2), fun z => z.elim Or.inl (fun z => Or.inr ⟨hu, z⟩)⟩
  · rcases hu with hu | hu
    · exact h3 u hu
    · exact gr_Rs (h3 i hi2) ⟨p, hu⟩
  · rcases r2 with ⟨r2, r3⟩ | ⟨r2, v, hv, r3, r4⟩
    · rcases h4 with ⟨h4, h5, h6⟩ | ⟨h4, h5⟩
      · refine Or.inl ⟨r2.trans h4, fun u hu => ?_, fun t u ht hb he => ?_⟩
        · rcases hu with hu | hu
          · exact h5 u hu
          · have hl := lb_lt hu
            exact h5 u ((hQ u hl).mp (r3 u hl hu))
        · by_cases e : t = i
          · subst e
            have hl := lb_lt he.2
            exact h5 u ((hQ u hl).mp (r3 u hl he.2))
          · exact h6 t u (by omega) hb he
      · refine Or.inr ⟨r2.trans h4, Nat.lt_of_lt_of_le h5 (gr_sz_mono 64 (fun u _ hu => Or.inl hu))⟩
    · refine Or.inr ⟨r2, ?_⟩
      have hq : ¬ Q v := fun z => (hQ v hv).mpr z r4
      exact gr_sz_lt 64 (fun u _ hu => Or.inl (h2 u hu)) v hv (Or.inr r3) (fun z => hq (h2 v z))
/-! ===== the passes of spread ===== -/
def sr_K (E : Nat → Int64) (T : Int64) (y s : Nat) (k : Nat) (b : Nat → Int32) (g : Int32) : Prop :=
  ∃ B : Nat → Prop, (∀ u, u < 64 → b u = lb_i (B u)) ∧ B s ∧ (∀ u, B u → gr_R (sp_e E T y) s u) ∧ ((g = 1 ∧ k + 1 ≤ gr_sz B 64) ∨ (g = 0 ∧ ∀ t u, B t → sp_e E T y t u → B u))
theorem sr_K0 {E : Nat → Int64} {T : Int64} {y s : Nat} {b : Nat → Int32} (hs : s < 64) (h : ∀ u, u < 64 → b u = lb_i (u = s)) : sr_K E T y s 0 b 1 := by
  refine ⟨fun u => u = s, h, rfl, fun u hu => ?_, Or.inl ⟨rfl, ?_⟩⟩
  · have hu : u = s := hu
    subst hu
    exact gr_Rr u
  · exact gr_sz_pos (P := fun u => u = s) hs rfl
theorem sr_KJ {E : Nat → Int64} {T : Int64} {y s k : Nat} {b : Nat → Int32} {g : Int32} (h : sr_K E T y s k b g) (n : ¬ g = 0) : ∃ B : Nat → Prop, sr_J E T y s B 0 b 0 ∧ B s ∧ k + 1 ≤ gr_sz B 64 := by
  obtain ⟨B, h1, h2, h3, h4⟩ := h
  rcases h4 with ⟨_, h4⟩ | ⟨h4, _⟩
  · exact ⟨B, ⟨B, h1, fun _ z => z, h3, Or.inl ⟨rfl, fun _ z => z, fun t u ht => by omega⟩⟩, h2, h4⟩
  · exact absurd h4 n
theorem sr_JK {E : Nat → Int64} {T : Int64} {y s k : Nat} {b : Nat → Int32} {g : Int32} {B : Nat → Prop} (hs : s < 64) (h : sr_J E T y s B 64 b g) (h2 : B s) (h3 : k + 1 ≤ gr_sz B 64) : sr_K E T y s (k + 1) b g := by
  obtain ⟨Q, q1, q2, q3, q4⟩ := h
  refine ⟨Q, q1, q2 s h2, q3, ?_⟩
  rcases q4 with ⟨q4, q5, q6⟩ | ⟨q4, q5⟩
  · refine Or.inr ⟨q4, fun t u ht he => ?_⟩
    have hl := sp_R64 hs (q3 t ht)
    exact q2 u (q6 t u hl (q5 t ht) he)
  · exact Or.inl ⟨q4, by omega⟩
theorem sr_Kx {E : Nat → Int64} {T : Int64} {y s k : Nat} {b : Nat → Int32} {g : Int32} (h : sr_K E T y s k b g) (x : g = 0 ∨ 64 ≤ k) : ∀ u, u < 64 → b u = lb_i (gr_R (sp_e E T y) s u) := by
  obtain ⟨B, h1, h2, h3, h4⟩ := h
  have hc : ∀ t u, B t → sp_e E T y t u → B u := by
    rcases h4 with ⟨h4, h5⟩ | ⟨_, h5⟩
    · rcases x with x | x
      · rw [h4] at x; exact absurd x (by decide)
      · have := gr_sz_le B 64
        omega
    · exact h5
  intro u hu
  exact (h1 u hu).trans (lb_ic ⟨h3 u, fun z => gr_clo h2 hc z⟩)
/-! ===== findRounds: one pass, and the passes ===== -/
def sr_H (E : Nat → Int64) (y : Nat) (r : Nat → Int32) (t : Nat) : Prop := ∃ u, u < 64 ∧ lb_b (E (64 * y + t)) u ∧ ¬ r u = 0
def sr_M (E : Nat → Int64) (T : Int64) (y s : Nat) (A : Nat → Prop) (i : Nat) (r : Nat → Int32) (g : Int32) : Prop :=
  ∃ Q : Nat → Prop, (∀ u, u < 64 → r u = lb_i (Q u)) ∧ (∀ u, Q u → A u) ∧ (∀ u, gr_R (sp_e E T y) s u → gr_inf (sp_e E T y) u → Q u) ∧ ((g = 0 ∧ (∀ u, A u → Q u) ∧ ∀ t, t < i → A t → ∃ u, lb_b (E (64 * y + t)) u ∧ A u) ∨ (g = 1 ∧ gr_sz Q 64 < gr_sz A 64))
theorem sr_Mn {E : Nat → Int64} {T : Int64} {y s : Nat} {A : Nat → Prop} {i : Nat} {r : Nat → Int32} {g : Int32} (hi : i < 64) (h : sr_M E T y s A i r g) (n : r i = 0 ∨ sr_H E y r i) : sr_M E T y s A (i + 1) r g := by
  obtain ⟨Q, h1, h2, h3, h4⟩ := h
  refine ⟨Q, h1, h2, h3, ?_⟩
  rcases h4 with ⟨h4, h5, h6⟩ | h4
  · refine Or.inl ⟨h4, h5, fun t ht ha => ?_⟩
    by_cases e : t = i
    · subst e
      rcases n with n | n
      · rw [h1 t hi] at n
        exact absurd (h5 t ha) (lb_iz.mp n)
      · obtain ⟨u, hu, n1, n2⟩ := n
        rw [h1 u hu] at n2
        exact ⟨u, n1, h2 u (lb_in.mp n2)⟩
    · exact h6 t (by omega) ha
  · exact Or.inr h4
theorem sr_Mr {E : Nat → Int64} {T : Int64} {y s : Nat} {A : Nat → Prop} {i : Nat} {r : Nat → Int32} {g : Int32} (hi : i < 64) (h : sr_M E T y s A i r g) (n : ¬ r i = 0) (z : ¬ sr_H E y r i) : sr_M E T y s A (i + 1) (upd r i 0) 1 := by
  obtain ⟨Q, h1, h2, h3, h4⟩ := h
  have hq : Q i := by rw [h1 i hi] at n; exact lb_in.mp n
  refine ⟨fun u => Q u ∧ u ≠ i, fun u hu => ?_, fun u hu => h2 u hu.1, fun u hu hf => ⟨h3 u hu hf, fun e => ?_⟩, Or.inr ⟨rfl, ?_⟩⟩
  · by_cases e : u = i
    · subst e
      rw [pk_us, lb_i0 (fun z => z.2 rfl)]
    · rw [pk_un e]
      exact (h1 u hu).trans (lb_ic ⟨fun q => ⟨q, e⟩, fun q => q.1⟩)
  · subst e
    obtain ⟨v, e1, e2⟩ := gr_infN hf
    have hv := lb_lt e1.2
    have hq2 := h3 v (gr_Rs hu e1) e2
    exact z ⟨v, hv, e1.2, by rw [h1 v hv]; exact lb_in.mpr hq2⟩
  · have a1 : gr_sz (fun u => Q u ∧ u ≠ i) 64 < gr_sz Q 64 := gr_sz_lt 64 (fun u _ hu => hu.1) i hi hq (fun z => z.2 rfl)
    have a2 : gr_sz Q 64 ≤ gr_sz A 64 := gr_sz_mono 64 (fun u _ hu => h2 u hu)
    omega
def sr_N (E : Nat → Int64) (T : Int64) (y s : Nat) (k : Nat) (r : Nat → Int32) (g : Int32) : Prop :=
  ∃ A : Nat → Prop, (∀ u, u < 64 → r u = lb_i (A u)) ∧ (∀ u, A u → gr_R (sp_e E T y) s u ∧ lb_b T u) ∧ (∀ u, gr_R (sp_e E T y) s u → gr_inf (sp_e E T y) u → A u) ∧ ((g = 1 ∧ gr_sz A 64 + k ≤ 64) ∨ (g = 0 ∧ ∀ t, A t → ∃ u, lb_b (E (64 * y + t)) u ∧ A u))
theorem sr_N0 {E : Nat → Int64} {T : Int64} {y s : Nat} {r : Nat → Int32} (h : ∀ u, u < 64 → r u = lb_i (gr_R (sp_e E T y) s u ∧ lb_b T u)) : sr_N E T y s 0 r 1 := by
  have k := gr_sz_le (fun u => gr_R (sp_e E T y) s u ∧ lb_b T u) 64
  exact ⟨fun u => gr_R (sp_e E T y) s u ∧ lb_b T u, h, fun _ z => z, fun _ h1 h2 => ⟨h1, sp_infT h2⟩, Or.inl ⟨rfl, by rw [Nat.add_zero]; exact k⟩⟩
theorem sr_NM {E : Nat → Int64} {T : Int64} {y s k : Nat} {r : Nat → Int32} {g : Int32} (h : sr_N E T y s k r g) (n : ¬ g = 0) : ∃ A : Nat → Prop, sr_M E T y s A 0 r 0 ∧ (∀ u, A u → gr_R (sp_e E T y) s u ∧ lb_b T u) ∧ gr_sz A 64 + k ≤ 64 := by
  obtain ⟨A, h1, h2, h3, h4⟩ := h
  rcases h4 with ⟨_, h4⟩ | ⟨h4, _⟩
  · exact ⟨A, ⟨A, h1, fun _ z => z, h3, Or.inl ⟨rfl, fun _ z => z, fun t ht => by omega⟩⟩, h2, h4⟩
  · exact absurd h4 n
theorem sr_MN {E : Nat → Int64} {T : Int64} {y s k : Nat} {r : Nat → Int32} {g : Int32} {A : Nat → Prop} (hs : s < 64) (h : sr_M E T y s A 64 r g) (h2 : ∀ u, A u → gr_R (sp_e E T y) s u ∧ lb_b T u) (h3 : gr_sz A 64 + k ≤ 64) : sr_N E T y s (k + 1) r g := by
  obtain ⟨Q, q1, q2, q3, q4⟩ := h
  refine ⟨Q, q1, fun u hu => h2 u (q2 u hu), q3, ?_⟩
  rcases q4 with ⟨q4, q5, q6⟩ | ⟨q4, q5⟩
  · refine Or.inr ⟨q4, fun t ht => ?_⟩
    have ha := q2 t ht
    have hl := sp_R64 hs (h2 t ha).1
    obtain ⟨u, e, hu⟩ := q6 t hl ha
    exact ⟨u, e, q5 u hu⟩
  · exact Or.inl ⟨q4, by omega⟩
theorem sr_Nx {E : Nat → Int64} {T : Int64} {y s k : Nat} {r : Nat → Int32} {g : Int32} (hs : s < 64) (h : sr_N E T y s k r g) (x : g = 0 ∨ 64 ≤ k) : ∀ u, u < 64 → r u = lb_i (gr_R (sp_e E T y) s u ∧ gr_inf (sp_e E T y) u) := by
  obtain ⟨A, h1, h2, h3, h4⟩ := h
  have hc : ∀ t, A t → ∃ u, lb_b (E (64 * y + t)) u ∧ A u := by
    rcases h4 with ⟨h4, h5⟩ | ⟨_, h5⟩
    · rcases x with x | x
      · rw [h4] at x; exact absurd x (by decide)
      · intro t ht
        have hl := sp_R64 hs (h2 t ht).1
        have := gr_sz_pos hl ht
        omega
    · exact h5
  intro u hu
  refine (h1 u hu).trans (lb_ic ⟨fun z => ⟨(h2 u z).1, A, z, fun t ht => ?_⟩, fun z => h3 u z.1 z.2⟩)
  obtain ⟨v, e, hv⟩ := hc t ht
  exact ⟨v, ⟨(h2 t ht).2, e⟩, hv⟩
end
section
/-! ===== sets put together state by state ===== -/
def lb_acc (P : Nat → Prop) (i : Nat) (w : Int64) : Prop := ∀ j, j < 64 → (lb_b w j ↔ (j < i ∧ P j))
theorem lb_acc0 (P : Nat → Prop) : lb_acc P 0 0 := fun j _ => ⟨fun h => absurd h (lb_0 j), fun h => by omega⟩
theorem lb_accT {P : Nat → Prop} {i : Nat} {w : Int64} (hi : i < 64) (h : lb_acc P i w) (p : P i) : lb_acc P (i + 1) (w ||| ((1 : Int64) <<< ((nI i).toInt64 &&& 63))) := by
  intro j hj
  rw [lb_or, h j hj, lb_shl hi]
  constructor
  · intro z
    rcases z with z | z
    · exact ⟨by omega, z.2⟩
    · subst z; exact ⟨by omega, p⟩
  · intro z
    by_cases e : j = i
    · exact Or.inr e
    · exact Or.inl ⟨by omega, z.2⟩
theorem lb_accF {P : Nat → Prop} {i : Nat} {w : Int64} (h : lb_acc P i w) (p : ¬ P i) : lb_acc P (i + 1) w := by
  intro j hj
  rw [h j hj]
  constructor
  · intro z; exact ⟨by omega, z.2⟩
  · intro z
    by_cases e : j = i
    · subst e; exact absurd z.2 p
    · exact ⟨by omega, z.2⟩
theorem lb_accX {P : Nat → Prop} {w : Int64} (h : lb_acc P 64 w) : ∀ j, j < 64 → (lb_b w j ↔ P j) := fun j hj => (h j hj).trans ⟨fun z => z.2, fun z => ⟨hj, z⟩⟩
def lb_uni (V : Nat → Int64) (P : Nat → Prop) (i : Nat) (w : Int64) : Prop := ∀ j, j < 64 → (lb_b w j ↔ ∃ t, t < i ∧ P t ∧ lb_b (V t) j)
theorem lb_uni0 (V : Nat → Int64) (P : Nat → Prop) : lb_uni V P 0 0 := fun j _ => ⟨fun h => absurd h (lb_0 j), fun h => by obtain ⟨t, ht, _⟩ := h; omega⟩
theorem lb_uniT {V : Nat → Int64} {P : Nat → Prop} {i : Nat} {w : Int64} (h : lb_uni V P i w) (p : P i) : lb_uni V P (i + 1) (w ||| V i) := by
  intro j hj
  rw [lb_or, h j hj]
  constructor
  · intro z
    rcases z with ⟨t, ht, z⟩ | z
    · exact ⟨t, by omega, z⟩
    · exact ⟨i, by omega, p, z⟩
  · intro z
    obtain ⟨t, ht, z⟩ := z
    by_cases e : t = i
    · subst e; exact Or.inr z.2
    · exact Or.inl ⟨t, by omega, z⟩
theorem lb_uniF {V : Nat → Int64} {P : Nat → Prop} {i : Nat} {w : Int64} (h : lb_uni V P i w) (p : ¬ P i) : lb_uni V P (i + 1) w := by
  intro j hj
  rw [h j hj]
  constructor
  · intro z
    obtain ⟨t, ht, z⟩ := z
    exact ⟨t, by omega, z⟩
  · intro z
    obtain ⟨t, ht, z⟩ := z
    by_cases e : t = i
    · subst e; exact absurd z.1 p
    · exact ⟨t, by omega, z⟩
/-! ===== some state below i of which P holds ===== -/
theorem lb_exT {P : Nat → Prop} {i : Nat} (p : P i) : ∃ t, t < i + 1 ∧ P t := ⟨i, by omega, p⟩
theorem lb_exF {P : Nat → Prop} {i : Nat} (p : ¬ P i) : (∃ t, t < i + 1 ∧ P t) ↔ ∃ t, t < i ∧ P t := by
  constructor
  · intro z
    obtain ⟨t, ht, z⟩ := z
    by_cases e : t = i
    · subst e; exact absurd z p
    · exact ⟨t, by omega, z⟩
  · intro z
    obtain ⟨t, ht, z⟩ := z
    exact ⟨t, by omega, z⟩
theorem lb_exS {P : Nat → Prop} {i : Nat} : (∃ t, t < i + 1 ∧ P t) ↔ ((∃ t, t < i ∧ P t) ∨ P i) := by
  constructor
  · intro z
    obtain ⟨t, ht, z⟩ := z
    by_cases e : t = i
    · subst e; exact Or.inr z
    · exact Or.inl ⟨t, by omega, z⟩
  · intro z
    rcases z with ⟨t, ht, z⟩ | z
    · exact ⟨t, by omega, z⟩
    · exact ⟨i, by omega, z⟩
/-! ===== closing: one step m, state by state ===== -/
def xc_I (e : Nat → Nat → Prop) (m i : Nat) (q : Nat → Int64) : Prop := ∀ s, s < 64 → ∀ u, u < 64 → (lb_b (q s) u ↔ ((s < i ∧ gr_ws e (m + 1) s u) ∨ (i ≤ s ∧ gr_ws e m s u)))
theorem xc_m {e : Nat → Nat → Prop} {m i : Nat} {q : Nat → Int64} (h : xc_I e m i q) (hm : m < 64) {u : Nat} (hu : u < 64) : lb_b (q m) u ↔ gr_ws e m m u := by
  rw [h m hm u hu]
  constructor
  · intro z
    rcases z with ⟨_, z⟩ | ⟨_, z⟩
    · rcases z with z | z
      · exact z
      · exact z.2
    · exact z
  · intro z
    by_cases c : m < i
    · exact Or.inl ⟨c, Or.inl z⟩
    · exact Or.inr ⟨by omega, z⟩
theorem xc_i {e : Nat → Nat → Prop} {m i : Nat} {q : Nat → Int64} (h : xc_I e m i q) (hi : i < 64) {u : Nat} (hu : u < 64) : lb_b (q i) u ↔ gr_ws e m i u := by
  rw [h i hi u hu]
  constructor
  · intro z
    rcases z with ⟨z, _⟩ | ⟨_, z⟩
    · omega
    · exact z
  · intro z
    exact Or.inr ⟨by omega, z⟩
theorem xc_T {e : Nat → Nat → Prop} {m i : Nat} {q : Nat → Int64} (h : xc_I e m i q) (hm : m < 64) (hi : i < 64) (p : lb_b (q i) m) : xc_I e m (i + 1) (vp_updL q i (q i ||| q m)) := by
  intro s hs u hu
  by_cases c : s = i
  · subst c
    rw [pk_uLs, lb_or, xc_i h hs hu, xc_m h hm hu]
    rw [xc_i h hs hm] at p
    constructor
    · intro z
      rcases z with z | z
      · exact Or.inl ⟨by omega, Or.inl z⟩
      · exact Or.inl ⟨by omega, Or.inr ⟨p, z⟩⟩
    · intro z
      rcases z with ⟨_, z⟩ | ⟨z, _⟩
      · rcases z with z | z
        · exact Or.inl z
        · exact Or.inr z.2
      · omega
  · rw [pk_uLn c, h s hs u hu]
    constructor
    · intro z
      rcases z with ⟨z1, z⟩ | ⟨z1, z⟩
      · exact Or.inl ⟨by omega, z⟩
      · exact Or.inr ⟨by omega, z⟩
    · intro z
      rcases z with ⟨z1, z⟩ | ⟨z1, z⟩
      · exact Or.inl ⟨by omega, z⟩
      · exact Or.inr ⟨by omega, z⟩
theorem xc_F {e : Nat → Nat → Prop} {m i : Nat} {q : Nat → Int64} (h : xc_I e m i q) (hm : m < 64) (hi : i < 64) (p : ¬ lb_b (q i) m) : xc_I e m (i + 1) q := by
  intro s hs u hu
  by_cases c : s = i
  · subst c
    rw [xc_i h hs hu]
    rw [xc_i h hs hm] at p
    constructor
    · intro z
      exact Or.inl ⟨by omega, Or.inl z⟩
    · intro z
      rcases z with ⟨_, z⟩ | ⟨z, _⟩
      · rcases z with z | z
        · exact z
        · exact absurd z.1 p
      · omega
  · rw [h s hs u hu]
    constructor
    · intro z
      rcases z with ⟨z1, z⟩ | ⟨z1, z⟩
      · exact Or.inl ⟨by omega, z⟩
      · exact Or.inr ⟨by omega, z⟩
    · intro z
      rcases z with ⟨z1, z⟩ | ⟨z1, z⟩
      · exact Or.inl ⟨by omega, z⟩
      · exact Or.inr ⟨by omega, z⟩
theorem xc_S {e : Nat → Nat → Prop} {m : Nat} {q : Nat → Int64} (h : xc_I e m 64 q) : xc_I e (m + 1) 0 q := by
  intro s hs u hu
  rw [h s hs u hu]
  constructor
  · intro z
    rcases z with ⟨_, z⟩ | ⟨z1, _⟩
    · exact Or.inr ⟨by omega, z⟩
    · omega
  · intro z
    rcases z with ⟨z1, _⟩ | ⟨_, z⟩
    · omega
    · exact Or.inl ⟨hs, z⟩
theorem xc_0 {e : Nat → Nat → Prop} {q : Nat → Int64} (h : ∀ s, s < 64 → ∀ u, u < 64 → (lb_b (q s) u ↔ e s u)) : xc_I e 0 0 q := by
  intro s hs u hu
  rw [h s hs u hu]
  constructor
  · intro z
    exact Or.inr ⟨by omega, z⟩
  · intro z
    rcases z with ⟨z1, _⟩ | ⟨_, z⟩
    · omega
    · exact z
theorem xc_X {e : Nat → Nat → Prop} {q : Nat → Int64} (h : xc_I e 64 0 q) : ∀ s, s < 64 → ∀ u, u < 64 → (lb_b (q s) u ↔ gr_ws e 64 s u) := by
  intro s hs u hu
  rw [h s hs u hu]
  constructor
  · intro z
    rcases z with ⟨z1, _⟩ | ⟨_, z⟩
    · omega
    · exact z
  · intro z
    exact Or.inr ⟨by omega, z⟩
end
section
/-! ===== bounds, branches ===== -/
theorem lb_64 {i : Nat} (h : i < 64) : ¬ (64 : Int32) ≤ nI i := nI_ge (b := 64) h (by decide)
theorem lb_64x : (64 : Int32) ≤ nI 64 := nI_le (a := 64) (b := 64) (by decide) (by decide)
theorem lb_4 {i : Nat} (h : i < 4) : ¬ (4 : Int32) ≤ nI i := nI_ge (b := 4) h (by decide)
theorem lb_4x : (4 : Int32) ≤ nI 4 := nI_le (a := 4) (b := 4) (by decide) (by decide)
theorem lb_br {P A B : Prop} (f : ¬ P → A) (g : P → B) : (lb_i P = 0 → A) ∧ (¬ lb_i P = 0 → B) := ⟨fun z => f (lb_iz.mp z), fun z => g (lb_in.mp z)⟩
theorem lb_rng {n : Nat} (hn : n < 2 ^ 31) {N : Int32} (hN : N = nI n) {post : Int32 → Prop} {x : Int32} (h : post (lb_i (lb_x n x))) : (x < 0 → post 0) ∧ (¬ x < 0 → ((N ≤ x → post 0) ∧ (¬ N ≤ x → post 1))) := by
  subst hN
  refine ⟨fun z => ?_, fun z => ⟨fun y => ?_, fun y => ?_⟩⟩
  · have g : ¬ lb_x n x := fun w => lb_x0 w hn z
    rw [lb_i0 g] at h
    exact h
  · have g : ¬ lb_x n x := by
      intro w
      obtain ⟨j, hj, e⟩ := w
      subst e
      exact nI_ge hj hn y
    rw [lb_i0 g] at h
    exact h
  · have g : lb_x n x := by
      obtain ⟨j, hj, e⟩ := nI_of z
      subst e
      refine ⟨j, ?_, rfl⟩
      rw [nI_leI hn hj] at y
      omega
    rw [lb_i1 g] at h
    exact h
theorem lb_ix1 (a b : Nat) : (nI a * 64) + nI b = nI (64 * a + b) := by
  show (nI a * nI 64) + nI b = _
  rw [pk_mul, nI_add, Nat.mul_comm]
theorem lb_ix2 (a b : Nat) : (64 * nI a) + nI b = nI (64 * a + b) := by
  show (nI 64 * nI a) + nI b = _
  rw [pk_mul, nI_add]
theorem lb_in1 {a b n N : Nat} (ha : a < n) (hb : b < 64) (hN : 64 * n = N) (hl : N < 2 ^ 31) : vp_in ((nI a * 64) + nI b) N := by
  rw [lb_ix1]
  exact vp_in_nI (by omega) hl
theorem lb_in2 {a b n N : Nat} (ha : a < n) (hb : b < 64) (hN : 64 * n = N) (hl : N < 2 ^ 31) : vp_in ((64 * nI a) + nI b) N := by
  rw [lb_ix2]
  exact vp_in_nI (by omega) hl
theorem lb_at1 {a b : Nat} (ha : a < 64) (hb : b < 64) : ((nI a * 64) + nI b).toNatClampNeg = 64 * a + b := by
  rw [lb_ix1]
  exact nI_clamp (by omega)
theorem lb_at2 {a b : Nat} (ha : a < 64) (hb : b < 64) : ((64 * nI a) + nI b).toNatClampNeg = 64 * a + b := by
  rw [lb_ix2]
  exact nI_clamp (by omega)
theorem lb_ne {x : Int32} {n : Nat} (k : Nat) (h : x = nI n) (hn : n < 2 ^ 31) (hk : k < 2 ^ 31) (e : n ≠ k) : ¬ x = nI k := by
  subst h
  rw [nI_eq hn hk]
  exact e
def lb_va (x s : Int32) : Int32 := (s >>> ((2 * x) &&& 31)) &&& 3
def lb_wv (s x v : Int32) : Int32 := (s &&& (((3 : Int32) <<< ((2 * x) &&& 31)) ^^^ (-1))) ||| (v <<< ((2 * x) &&& 31))
/-! ===== the component's small methods ===== -/
theorem xa_isVariable {post : Int32 → Prop} {x : Int32} (h : post (lb_i (lb_x 3 x))) : wpX_isVariable post x := lb_rng (n := 3) (by decide) rfl h
theorem xa_isValue {post : Int32 → Prop} {x : Int32} (h : post (lb_i (lb_x 4 x))) : wpX_isValue post x := lb_rng (n := 4) (by decide) rfl h
theorem xa_isState {post : Int32 → Prop} {x : Int32} (h : post (lb_i (lb_x 64 x))) : wpX_isState post x := lb_rng (n := 64) (by decide) rfl h
theorem xa_contains {post : Int32 → Prop} {w : Int64} {s : Nat} (hs : s < 64) (h : post (lb_i (lb_b w s))) : wpX_contains post w (nI s) := by
  refine br_c (fun z => ?_) (fun z => ?_)
  · rw [lb_i0 ((lb_t0 hs).mp z)] at h
    exact h
  · have g : lb_b w s := Classical.byContradiction (fun y => z ((lb_t0 hs).mpr y))
    rw [lb_i1 g] at h
    exact h
theorem xa_size4 {post : Int32 → Prop} {w : Int64} (h : post (nI (gr_sz (lb_b w) 64))) : ∀ d i, i + d = 64 → wX_sizeOf_4 post w (d + 1) (nI (gr_sz (lb_b w) i)) (nI i) := by
  intro d
  induction d with
  | zero =>
    intro i hi
    have e : i = 64 := by omega
    subst e
    exact br_t lb_64x h
  | succ d ih =>
    intro i hi
    have hl : i < 64 := by omega
    refine br_f (lb_64 hl) (xa_contains hl (lb_br (fun n => nm_r (nI_1 i) ?_) (fun p => nm_r (nI_1 _) (nm_r (nI_1 i) ?_))))
    · rw [← lb_szf n]
      exact ih (i + 1) (by omega)
    · rw [← lb_szt p]
      exact ih (i + 1) (by omega)
theorem xa_size {post : Int32 → Prop} {w : Int64} (h : post (nI (gr_sz (lb_b w) 64))) : wpX_sizeOf post w := ⟨65, xa_size4 h 64 0 rfl⟩
theorem xa_member5 {post : Int32 → Prop} {w : Int64} {k : Int32} : ∀ d i b, i + d = 64 → post (lb_mem (lb_b w) k d i b) → wX_member_5 post w k (d + 1) (nI b) (nI i) := by
  intro d
  induction d with
  | zero =>
    intro i b hi h
    have e : i = 64 := by omega
    subst e
    exact br_t lb_64x h
  | succ d ih =>
    intro i b hi h
    have hl : i < 64 := by omega
    refine br_f (lb_64 hl) (xa_contains hl (lb_br (fun n => nm_r (nI_1 i) ?_) (fun p => br_c (fun e => ?_) (fun e => nm_r (nI_1 b) (nm_r (nI_1 i) ?_)))))
    · rw [lb_memf n] at h
      exact ih (i + 1) b (by omega) h
    · rw [lb_memt p e] at h
      exact h
    · rw [lb_memn p e] at h
      exact ih (i + 1) (b + 1) (by omega) h
theorem xa_member {post : Int32 → Prop} {w : Int64} {k : Int32} (h : post (lb_mem (lb_b w) k 64 0 0)) : wpX_member post w k := ⟨65, xa_member5 64 0 0 rfl h⟩
theorem xa_swv5 {post : Int64 → Prop} {x y : Int32} (H : ∀ w, (∀ j, j < 64 → (lb_b w j ↔ lb_va x (nI j) = y)) → post w) : ∀ d i w, i + d = 64 → lb_acc (fun s => lb_va x (nI s) = y) i w → wX_statesWithValue_5 post x y (d + 1) w (nI i) := by
  intro d
  induction d with
  | zero =>
    intro i w hi h
    have e : i = 64 := by omega
    subst e
    exact br_t lb_64x (H w (lb_accX h))
  | succ d ih =>
    intro i w hi h
    have hl : i < 64 := by omega
    exact br_f (lb_64 hl) (br_c (fun e => nm_e (nm_r (nI_1 i) (ih (i + 1) _ (by omega) (lb_accT hl h e)))) (fun e => nm_r (nI_1 i) (ih (i + 1) w (by omega) (lb_accF h e))))
theorem xa_swv {post : Int64 → Prop} {x y : Int32} (H : ∀ w, (∀ j, j < 64 → (lb_b w j ↔ lb_va x (nI j) = y)) → post w) : wpX_statesWithValue post x y := ⟨65, xa_swv5 H 64 0 0 rfl (lb_acc0 _)⟩
theorem xa_sam5 {post : Int64 → Prop} {x y : Int32} (H : ∀ w, (∀ j, j < 64 → (lb_b w j ↔ ¬ lb_va y (nI j) < lb_va x (nI j))) → post w) : ∀ d i w, i + d = 64 → lb_acc (fun s => ¬ lb_va y (nI s) < lb_va x (nI s)) i w → wX_statesAtMost_5 post x y (d + 1) w (nI i) := by
  intro d
  induction d with
  | zero =>
    intro i w hi h
    have e : i = 64 := by omega
    subst e
    exact br_t lb_64x (H w (lb_accX h))
  | succ d ih =>
    intro i w hi h
    have hl : i < 64 := by omega
    exact br_f (lb_64 hl) (br_c (fun e => nm_r (nI_1 i) (ih (i + 1) w (by omega) (lb_accF h (fun z => z e)))) (fun e => nm_e (nm_r (nI_1 i) (ih (i + 1) _ (by omega) (lb_accT hl h e)))))
theorem xa_sam {post : Int64 → Prop} {x y : Int32} (H : ∀ w, (∀ j, j < 64 → (lb_b w j ↔ ¬ lb_va y (nI j) < lb_va x (nI j))) → post w) : wpX_statesAtMost post x y := ⟨65, xa_sam5 H 64 0 0 rfl (lb_acc0 _)⟩
section
variable (lv ct pt : Int32) (cs : Nat → Int64) (W : Nat → Int32) (fs gs E q : Nat → Int64)
theorem xa_isCond {post : Int32 → Prop} {c : Nat} {x : Int32} (hc : c ≤ 24) (h : post (lb_i (lb_x c x))) : wpX_isCondition post (lv, nI c, pt, cs, W, fs, gs, E, q) x := lb_rng (n := c) (by omega) rfl h
theorem xa_isProg {post : Int32 → Prop} {p : Nat} {x : Int32} (hp : p ≤ 32) (h : post (lb_i (lb_x p x))) : wpX_isProgram post (lv, ct, nI p, cs, W, fs, gs, E, q) x := lb_rng (n := p) (by omega) rfl h
theorem xa_eF6 {post : Int64 → Prop} {p : Nat} {S : Int64} (hp : p < 32) (H : ∀ w, (∀ j, j < 64 → (lb_b w j ↔ ∃ t, t < 64 ∧ lb_b S t ∧ lb_b (E (64 * p + t)) j)) → post w) : ∀ d i w, i + d = 64 → lb_uni (fun t => E (64 * p + t)) (lb_b S) i w → wX_endsFrom_6 post (nI p) S lv ct pt cs W fs gs E q (d + 1) w (nI i) := by
  intro d
  induction d with
  | zero =>
    intro i w hi h
    have e : i = 64 := by omega
    subst e
    exact br_t lb_64x (H w h)
  | succ d ih =>
    intro i w hi h
    have hl : i < 64 := by omega
    refine br_f (lb_64 hl) (xa_contains hl (lb_br (fun n => nm_r (nI_1 i) ?_) (fun p => And.intro ?_ (nm_e (nm_r (nI_1 i) ?_)))))
    · exact ih (i + 1) w (by omega) (lb_uniF h n)
    · exact lb_in1 hp hl rfl (by decide)
    · rw [lb_at1 (by omega) hl]
      exact ih (i + 1) _ (by omega) (lb_uniT h p)
theorem xa_eF {post : Int64 → Prop} {p : Nat} {S : Int64} (hp : p < 32) (H : ∀ w, (∀ j, j < 64 → (lb_b w j ↔ ∃ t, t < 64 ∧ lb_b S t ∧ lb_b (E (64 * p + t)) j)) → post w) : wpX_endsFrom post (lv, ct, pt, cs, W, fs, gs, E, q) (nI p) S := ⟨65, xa_eF6 lv ct pt cs W fs gs E q hp H 64 0 0 rfl (lb_uni0 _ _)⟩
theorem xa_mE6 {post : Int64 → Prop} {p : Nat} {S : Int64} (hp : p < 32) (H : ∀ w, (∀ j, j < 64 → (lb_b w j ↔ ¬ E (64 * p + j) &&& S = 0)) → post w) : ∀ d i w, i + d = 64 → lb_acc (fun j => ¬ E (64 * p + j) &&& S = 0) i w → wX_mayEndIn_6 post (nI p) S lv ct pt cs W fs gs E q (d + 1) w (nI i) := by
  intro d
  induction d with
  | zero =>
    intro i w hi h
    have e : i = 64 := by omega
    subst e
    exact br_t lb_64x (H w (lb_accX h))
  | succ d ih =>
    intro i w hi h
    have hl : i < 64 := by omega
    have ea : ((nI p * 64) + nI i).toNatClampNeg = 64 * p + i := lb_at1 (by omega) hl
    refine br_f (lb_64 hl) (And.intro (lb_in1 hp hl rfl (by decide)) (br_c (fun e => nm_r (nI_1 i) ?_) (fun e => nm_e (nm_r (nI_1 i) ?_))))
    · rw [ea] at e
      exact ih (i + 1) w (by omega) (lb_accF h (fun z => z e))
    · rw [ea] at e
      exact ih (i + 1) _ (by omega) (lb_accT hl h e)
theorem xa_mE {post : Int64 → Prop} {p : Nat} {S : Int64} (hp : p < 32) (H : ∀ w, (∀ j, j < 64 → (lb_b w j ↔ ¬ E (64 * p + j) &&& S = 0)) → post w) : wpX_mayEndIn post (lv, ct, pt, cs, W, fs, gs, E, q) (nI p) S := ⟨65, xa_mE6 lv ct pt cs W fs gs E q hp H 64 0 0 rfl (lb_acc0 _)⟩
end
end
section
theorem lb_cl {s : Nat} (h : s < 2048) : (nI s).toNatClampNeg = s := nI_clamp (by omega)
theorem lb_vi {s N : Nat} (h : s < N) (hN : N < 2 ^ 31) : vp_in (nI s) N := vp_in_nI h hN
theorem lb_uL {q : Nat → Int64} {s : Nat} {w : Int64} (h : s < 2048) : vp_updL q (nI s).toNatClampNeg w = vp_updL q s w := by rw [lb_cl h]
/-! ===== walking ===== -/
def xw_I (E : Nat → Int64) (T : Int64) (y i : Nat) (q : Nat → Int64) (w : Int64) : Prop :=
  (∀ s, s < i → ∀ u, u < 64 → (lb_b (q s) u ↔ ∃ k, k < 64 ∧ gr_pth (sp_e E T y) (k + 1) s u)) ∧ lb_acc (fun s => ∃ u, gr_pth (sp_e E T y) 64 s u ∧ lb_b T u) i w
theorem xw_Iq {E : Nat → Int64} {T : Int64} {y s : Nat} {q : Nat → Int64} {found : Int64} (h1 : ∀ s', s' < s → ∀ u, u < 64 → (lb_b (q s') u ↔ ∃ k, k < 64 ∧ gr_pth (sp_e E T y) (k + 1) s' u)) (hf : ∀ u, u < 64 → (lb_b found u ↔ ∃ k, k < 64 ∧ gr_pth (sp_e E T y) (k + 1) s u)) : ∀ s', s' < s + 1 → ∀ u, u < 64 → (lb_b (vp_updL q s found s') u ↔ ∃ k, k < 64 ∧ gr_pth (sp_e E T y) (k + 1) s' u) := by
  intro s' hs' u hu
  by_cases e : s' = s
  · subst e
    rw [pk_uLs]
    exact hf u hu
  · rw [pk_uLn e]
    exact h1 s' (by omega) u hu
theorem xw_nz {E : Nat → Int64} {T now : Int64} {y s : Nat} (hs : s < 64) (hn : ∀ u, u < 64 → (lb_b now u ↔ gr_pth (sp_e E T y) 64 s u)) : (¬ now &&& T = 0) ↔ ∃ u, gr_pth (sp_e E T y) 64 s u ∧ lb_b T u := by
  rw [lb_nz]
  constructor
  · intro z
    obtain ⟨j, hj, z⟩ := z
    rw [lb_and, hn j hj] at z
    exact ⟨j, z⟩
  · intro z
    obtain ⟨j, z1, z2⟩ := z
    have hj := lb_lt z2
    refine ⟨j, hj, ?_⟩
    rw [lb_and, hn j hj]
    exact ⟨z1, z2⟩
section
variable (lv ct pt : Int32) (cs : Nat → Int64) (W : Nat → Int32) (fs gs E : Nat → Int64)
theorem xw_25 {post : Int64 → SX → Prop} {J : Int64 → Int32 → (Nat → Int64) → (Nat → Int32) → (Nat → Int64) → (Nat → Int64) → (Nat → Int64) → (Nat → Int64) → Prop} {T : Int64} {y s : Nat} {w : Int64} {q : Nat → Int64} (hy : y < 32) (hs : s < 64) (h : xw_I E T y s q w) (HJ : ∀ q' w', xw_I E T y (s + 1) q' w' → J w' (nI (s + 1)) cs W fs gs E q') : ∀ d r now found, r + d = 64 → (∀ u, u < 64 → (lb_b now u ↔ gr_pth (sp_e E T y) r s u)) → (∀ u, u < 64 → (lb_b found u ↔ ∃ k, k < r ∧ gr_pth (sp_e E T y) (k + 1) s u)) → wX_walkRounds_25 post J T (nI y) w (nI s) lv ct pt cs W fs gs E q (d + 1) now found (nI r) := by
  intro d
  induction d with
  | zero =>
    intro r now found hr hn hf
    have e : r = 64 := by omega
    subst e
    refine br_t lb_64x (And.intro (lb_vi hs (by decide)) (nm_r (lb_uL (by omega)) (br_c (fun e => nm_r (nI_1 s) (HJ _ _ ⟨xw_Iq h.1 hf, ?_⟩)) (fun e => nm_e (nm_r (nI_1 s) (HJ _ _ ⟨xw_Iq h.1 hf, ?_⟩))))))
    · exact lb_accF h.2 (fun z => (xw_nz hs hn).mpr z e)
    · exact lb_accT hs h.2 ((xw_nz hs hn).mp e)
  | succ d ih =>
    intro r now found hr hn hf
    refine br_f (lb_64 (by omega)) (xa_eF lv ct pt cs W fs gs E q hy (fun now' hn' => nm_e (nm_r (nI_1 r) (ih (r + 1) now' _ (by omega) (sp_wstep hs hn hn') ?_))))
    intro u hu
    rw [lb_or, hf u hu, sp_wstep hs hn hn' u hu]
    exact (lb_exS (P := fun k => gr_pth (sp_e E T y) (k + 1) s u)).symm
theorem xw_6 {post : Int64 → SX → Prop} {T : Int64} {y : Nat} (hy : y < 32) (H : ∀ w q', sp_L E T y q' w → post w (lv, ct, pt, cs, W, fs, gs, E, q')) : ∀ d i w q, i + d = 64 → xw_I E T y i q w → wX_walkRounds_6 post T (nI y) lv ct pt (d + 1) w (nI i) cs W fs gs E q := by
  intro d
  induction d with
  | zero =>
    intro i w q hi h
    have e : i = 64 := by omega
    subst e
    exact br_t lb_64x (H w q (sp_walk h.1 (lb_accX h.2)))
  | succ d ih =>
    intro i w q hi h
    have hl : i < 64 := by omega
    refine br_f (lb_64 hl) (nm_e ⟨65, xw_25 lv ct pt cs W fs gs E hy hl h (fun q' w' h' => ih (i + 1) w' q' (by omega) h') 64 0 _ 0 rfl ?_ ?_⟩)
    · intro u hu
      rw [lb_shl hl]
      exact ⟨Eq.symm, Eq.symm⟩
    · intro u hu
      exact ⟨fun z => absurd z (lb_0 u), fun z => by obtain ⟨k, hk, _⟩ := z; omega⟩
theorem xw_all {post : Int64 → SX → Prop} {T : Int64} {y : Nat} {q : Nat → Int64} (hy : y < 32) (H : ∀ w q', sp_L E T y q' w → post w (lv, ct, pt, cs, W, fs, gs, E, q')) : wpX_walkRounds post (lv, ct, pt, cs, W, fs, gs, E, q) T (nI y) :=
  ⟨65, xw_6 lv ct pt cs W fs gs E hy H 64 0 0 q rfl ⟨fun s hs => by omega, lb_acc0 _⟩⟩
/-! ===== closing ===== -/
theorem xc_118 {post : Int64 → SX → Prop} {q : Nat → Int64} (H : ∀ w, (∀ s, s < 64 → (lb_b w s ↔ lb_b (q s) s)) → post w (lv, ct, pt, cs, W, fs, gs, E, q)) : ∀ d i w, i + d = 64 → lb_acc (fun s => lb_b (q s) s) i w → wX_closeRounds_118 post lv ct pt cs W fs gs E q (d + 1) w (nI i) := by
  intro d
  induction d with
  | zero =>
    intro i w hi h
    have e : i = 64 := by omega
    subst e
    exact br_t lb_64x (H w (lb_accX h))
  | succ d ih =>
    intro i w hi h
    have hl : i < 64 := by omega
    refine br_f (lb_64 hl) (And.intro (lb_vi hl (by decide)) (xa_contains hl (lb_br (fun n => nm_r (nI_1 i) ?_) (fun p => nm_e (nm_r (nI_1 i) ?_)))))
    · rw [lb_cl (by omega)] at n
      exact ih (i + 1) w (by omega) (lb_accF h n)
    · rw [lb_cl (by omega)] at p
      exact ih (i + 1) _ (by omega) (lb_accT hl h p)
theorem xc_61 {post : Int64 → SX → Prop} {J : Int32 → (Nat → Int64) → (Nat → Int32) → (Nat → Int64) → (Nat → Int64) → (Nat → Int64) → (Nat → Int64) → Prop} {e : Nat → Nat → Prop} {m : Nat} (hm : m < 64) (HJ : ∀ q', xc_I e (m + 1) 0 q' → J (nI (m + 1)) cs W fs gs E q') : ∀ d i q, i + d = 64 → xc_I e m i q → wX_closeRounds_61 post J (nI m) lv ct pt (d + 1) (nI i) cs W fs gs E q := by
  intro d
  induction d with
  | zero =>
    intro i q hi h
    have e : i = 64 := by omega
    subst e
    exact br_t lb_64x (nm_r (nI_1 m) (HJ q (xc_S h)))
  | succ d ih =>
    intro i q hi h
    have hl : i < 64 := by omega
    have hv : vp_in (nI i) 64 := lb_vi hl (by decide)
    refine br_f (lb_64 hl) (And.intro hv (xa_contains hm (lb_br (fun n => nm_r (nI_1 i) ?_) (fun p => And.intro hv (And.intro (lb_vi hm (by decide)) (And.intro hv (nm_r (e' := vp_updL q i (q i ||| q m)) ?_ (nm_r (nI_1 i) ?_))))))))
    · rw [lb_cl (by omega)] at n
      exact ih (i + 1) q (by omega) (xc_F h hm hl n)
    · rw [lb_cl (by omega), lb_cl (by omega)]
    · rw [lb_cl (by omega)] at p
      exact ih (i + 1) _ (by omega) (xc_T h hm hl p)
theorem xc_51 {post : Int64 → SX → Prop} {e : Nat → Nat → Prop} (H : ∀ w q', (∀ s, s < 64 → ∀ u, u < 64 → (lb_b (q' s) u ↔ gr_ws e 64 s u)) → (∀ s, s < 64 → (lb_b w s ↔ lb_b (q' s) s)) → post w (lv, ct, pt, cs, W, fs, gs, E, q')) : ∀ d m q, m + d = 64 → xc_I e m 0 q → wX_closeRounds_51 post lv ct pt (d + 1) (nI m) cs W fs gs E q := by
  intro d
  induction d with
  | zero =>
    intro m q hm h
    have e : m = 64 := by omega
    subst e
    exact br_t lb_64x ⟨65, xc_118 lv ct pt cs W fs gs E (fun w hw => H w q (xc_X h) hw) 64 0 0 rfl (lb_acc0 _)⟩
  | succ d ih =>
    intro m q hm h
    have hl : m < 64 := by omega
    exact br_f (lb_64 hl) ⟨65, xc_61 lv ct pt cs W fs gs E hl (fun q' h' => ih (m + 1) q' (by omega) h') 64 0 q rfl h⟩
theorem xc_3 {post : Int64 → SX → Prop} {T : Int64} {y : Nat} (hy : y < 32) (H : ∀ w q', sp_L E T y q' w → post w (lv, ct, pt, cs, W, fs, gs, E, q')) : ∀ d i q, i + d = 64 → (∀ s, s < i → ∀ u, u < 64 → (lb_b (q s) u ↔ sp_e E T y s u)) → wX_closeRounds_3 post T (nI y) lv ct pt (d + 1) (nI i) cs W fs gs E q := by
  intro d
  induction d with
  | zero =>
    intro i q hi h
    have e : i = 64 := by omega
    subst e
    exact br_t lb_64x ⟨65, xc_51 lv ct pt cs W fs gs E (fun w q' h1 h2 => H w q' (sp_close h1 h2)) 64 0 q rfl (xc_0 h)⟩
  | succ d ih =>
    intro i q hi h
    have hl : i < 64 := by omega
    have hv : vp_in (nI i) 64 := lb_vi hl (by decide)
    refine br_f (lb_64 hl) (xa_contains hl (lb_br (fun n => And.intro hv (nm_r (lb_uL (by omega)) (nm_r (nI_1 i) (ih (i + 1) _ (by omega) ?_)))) (fun p => And.intro (lb_in1 hy hl rfl (by decide)) (And.intro hv (nm_r (e' := vp_updL q i (E (64 * y + i))) ?_ (nm_r (nI_1 i) (ih (i + 1) _ (by omega) ?_)))))))
    · intro s hs u hu
      by_cases e : s = i
      · subst e
        rw [pk_uLs]
        exact ⟨fun z => absurd z (lb_0 u), fun z => absurd z.1 n⟩
      · rw [pk_uLn e]
        exact h s (by omega) u hu
    · rw [lb_cl (by omega), lb_at1 (by omega) hl]
    · intro s hs u hu
      by_cases e : s = i
      · subst e
        rw [pk_uLs]
        exact ⟨fun z => ⟨p, z⟩, fun z => z.2⟩
      · rw [pk_uLn e]
        exact h s (by omega) u hu
theorem xc_all {post : Int64 → SX → Prop} {T : Int64} {y : Nat} {q : Nat → Int64} (hy : y < 32) (H : ∀ w q', sp_L E T y q' w → post w (lv, ct, pt, cs, W, fs, gs, E, q')) : wpX_closeRounds post (lv, ct, pt, cs, W, fs, gs, E, q) T (nI y) :=
  ⟨65, xc_3 lv ct pt cs W fs gs E hy H 64 0 q rfl (fun s hs => by omega)⟩
end
end
section
theorem xo_put {E : Nat → Int64} {V : Nat → Int64} {p i : Nat} (hp : p < 32) (hi : i < 64) {w : Int64} (hw : w = V i) : vp_updL (lb_fl E (64 * p) i V) ((nI p * 64) + nI i).toNatClampNeg w = lb_fl E (64 * p) (i + 1) V := by
  rw [lb_at1 (by omega) hi, hw]
  exact lb_flS E (64 * p) i V
theorem xo_get {E : Nat → Int64} {V : Nat → Int64} {p i x s : Nat} (hx : x < p) (hs : s < 64) : lb_fl E (64 * p) i V (64 * x + s) = E (64 * x + s) := lb_flN (by omega)
def xo_set (x y z : Int32) (s : Nat) : Int64 := (1 : Int64) <<< ((lb_wv (nI s) x (((if y = 3 then 0 else lb_va y (nI s)) + z) &&& 3)).toInt64 &&& 63)
def xo_any (x : Int32) (s : Nat) : Nat → Int64
  | 0 => 0
  | v + 1 => xo_any x s v ||| ((1 : Int64) <<< ((lb_wv (nI s) x (nI v)).toInt64 &&& 63))
noncomputable def xo_pick (T : Int64) (y z s : Nat) : Nat := @ite Nat (lb_b T s) (Classical.propDecidable _) y z
section
variable (lv ct pt : Int32) (cs : Nat → Int64) (W : Nat → Int32) (fs gs E q : Nat → Int64)
theorem xo_stay3 {post : SX → Prop} {p : Nat} {st fl : Int64} (hp : p < 32) (H : post (lv, ct, pt, cs, W, vp_updL fs p fl, vp_updL gs p 0, lb_fl E (64 * p) 64 (fun s => st &&& ((1 : Int64) <<< ((nI s).toInt64 &&& 63))), q)) : ∀ d i, i + d = 64 → wX_workOutStay_3 post (nI p) st fl lv ct pt (d + 1) (nI i) cs W fs gs (lb_fl E (64 * p) i (fun s => st &&& ((1 : Int64) <<< ((nI s).toInt64 &&& 63)))) q := by
  intro d
  induction d with
  | zero =>
    intro i hi
    have e : i = 64 := by omega
    subst e
    exact br_t lb_64x (And.intro (lb_vi hp (by decide)) (nm_r (lb_uL (by omega)) (And.intro (lb_vi hp (by decide)) (nm_r (lb_uL (by omega)) H))))
  | succ d ih =>
    intro i hi
    have hl : i < 64 := by omega
    exact br_f (lb_64 hl) (And.intro (lb_in1 hp hl rfl (by decide)) (nm_r (xo_put hp hl rfl) (nm_r (nI_1 i) (ih (i + 1) (by omega)))))
theorem xo_stay {post : SX → Prop} {p : Nat} {st fl : Int64} (hp : p < 32) (H : post (lv, ct, pt, cs, W, vp_updL fs p fl, vp_updL gs p 0, lb_fl E (64 * p) 64 (fun s => st &&& ((1 : Int64) <<< ((nI s).toInt64 &&& 63))), q)) : wpX_workOutStay post (lv, ct, pt, cs, W, fs, gs, E, q) (nI p) st fl := by
  have h := xo_stay3 lv ct pt cs W fs gs E q hp H 64 0 rfl
  rw [lb_fl0] at h
  exact ⟨65, h⟩
theorem xo_set3 {post : SX → Prop} {p : Nat} {x y z : Int32} (hp : p < 32) (hy : lb_x 4 y) (H : post (lv, ct, pt, cs, W, vp_updL fs p 0, vp_updL gs p 0, lb_fl E (64 * p) 64 (xo_set x y z), q)) : ∀ d i, i + d = 64 → wX_workOutSet_3 post (nI p) x y z lv ct pt (d + 1) (nI i) cs W fs gs (lb_fl E (64 * p) i (xo_set x y z)) q := by
  intro d
  induction d with
  | zero =>
    intro i hi
    have e : i = 64 := by omega
    subst e
    exact br_t lb_64x (And.intro (lb_vi hp (by decide)) (nm_r (lb_uL (by omega)) (And.intro (lb_vi hp (by decide)) (nm_r (lb_uL (by omega)) H))))
  | succ d ih =>
    intro i hi
    have hl : i < 64 := by omega
    refine br_f (lb_64 hl) (xa_isVariable (lb_br (fun n => ?_) (fun n => ?_)))
    · have e3 : y = 3 := by
        obtain ⟨j, hj, e⟩ := hy
        subst e
        have : j = 3 := Classical.byContradiction (fun c => n ⟨j, by omega, rfl⟩)
        subst this
        rfl
      refine And.intro (lb_in1 hp hl rfl (by decide)) (nm_r (xo_put hp hl ?_) (nm_r (nI_1 i) (ih (i + 1) (by omega))))
      show _ = xo_set x y z i
      unfold xo_set
      rw [if_pos e3]
      rfl
    · have e3 : ¬ y = 3 := by
        intro c
        obtain ⟨j, hj, e⟩ := n
        rw [e] at c
        have c : nI j = nI 3 := c
        rw [nI_eq (by omega) (by omega)] at c
        omega
      refine And.intro (lb_in1 hp hl rfl (by decide)) (nm_r (xo_put hp hl ?_) (nm_r (nI_1 i) (ih (i + 1) (by omega))))
      show _ = xo_set x y z i
      unfold xo_set
      rw [if_neg e3]
      rfl
theorem xo_sett {post : SX → Prop} {p : Nat} {x y z : Int32} (hp : p < 32) (hy : lb_x 4 y) (H : post (lv, ct, pt, cs, W, vp_updL fs p 0, vp_updL gs p 0, lb_fl E (64 * p) 64 (xo_set x y z), q)) : wpX_workOutSet post (lv, ct, pt, cs, W, fs, gs, E, q) (nI p) x y z := by
  have h := xo_set3 lv ct pt cs W fs gs E q hp hy H 64 0 rfl
  rw [lb_fl0] at h
  exact ⟨65, h⟩
theorem xo_any14 {post : SX → Prop} {J : Int32 → (Nat → Int64) → (Nat → Int32) → (Nat → Int64) → (Nat → Int64) → (Nat → Int64) → (Nat → Int64) → Prop} {p s : Nat} {x : Int32} (hp : p < 32) (hs : s < 64) (H : J (nI (s + 1)) cs W fs gs (vp_updL E (64 * p + s) (xo_any x s 4)) q) : ∀ d v, v + d = 4 → wX_workOutAny_14 post J (nI p) x (nI s) lv ct pt cs W fs gs E q (d + 1) (xo_any x s v) (nI v) := by
  intro d
  induction d with
  | zero =>
    intro v hv
    have e : v = 4 := by omega
    subst e
    refine br_t lb_4x (And.intro (lb_in1 hp hs rfl (by decide)) (nm_r (e' := vp_updL E (64 * p + s) (xo_any x s 4)) ?_ (nm_r (nI_1 s) H)))
    rw [lb_at1 (by omega) hs]
  | succ d ih =>
    intro v hv
    exact br_f (lb_4 (by omega)) (nm_e (nm_r (nI_1 v) (ih (v + 1) (by omega))))
theorem xo_any2 {post : SX → Prop} {p : Nat} {x : Int32} (hp : p < 32) (H : post (lv, ct, pt, cs, W, vp_updL fs p 0, vp_updL gs p 0, lb_fl E (64 * p) 64 (fun s => xo_any x s 4), q)) : ∀ d i, i + d = 64 → wX_workOutAny_2 post (nI p) x lv ct pt (d + 1) (nI i) cs W fs gs (lb_fl E (64 * p) i (fun s => xo_any x s 4)) q := by
  intro d
  induction d with
  | zero =>
    intro i hi
    have e : i = 64 := by omega
    subst e
    exact br_t lb_64x (And.intro (lb_vi hp (by decide)) (nm_r (lb_uL (by omega)) (And.intro (lb_vi hp (by decide)) (nm_r (lb_uL (by omega)) H))))
  | succ d ih =>
    intro i hi
    have hl : i < 64 := by omega
    refine br_f (lb_64 hl) ⟨5, xo_any14 lv ct pt cs W fs gs _ q hp hl ?_ 4 0 rfl⟩
    have e : vp_updL (lb_fl E (64 * p) i (fun s => xo_any x s 4)) (64 * p + i) (xo_any x i 4) = lb_fl E (64 * p) (i + 1) (fun s => xo_any x s 4) := lb_flS E (64 * p) i (fun s => xo_any x s 4)
    rw [e]
    exact ih (i + 1) (by omega)
theorem xo_anyt {post : SX → Prop} {p : Nat} {x : Int32} (hp : p < 32) (H : post (lv, ct, pt, cs, W, vp_updL fs p 0, vp_updL gs p 0, lb_fl E (64 * p) 64 (fun s => xo_any x s 4), q)) : wpX_workOutAny post (lv, ct, pt, cs, W, fs, gs, E, q) (nI p) x := by
  have h := xo_any2 lv ct pt cs W fs gs E q hp H 64 0 rfl
  rw [lb_fl0] at h
  exact ⟨65, h⟩
end
/-! ===== one after the other ===== -/
noncomputable def xo_then (E : Nat → Int64) (x y s : Nat) : Int64 := lb_S (fun u => ∃ t, t < 64 ∧ lb_b (E (64 * x + s)) t ∧ lb_b (E (64 * y + t)) u)
def xo_thenF (E f : Nat → Int64) (x y s : Nat) : Prop := lb_b (f x) s ∨ ∃ t, t < 64 ∧ lb_b (E (64 * x + s)) t ∧ lb_b (f y) t
theorem xo_thenw {E E' f : Nat → Int64} {x y : Nat} {w : Int64} (hE : ∀ s, s < 64 → E' (64 * x + s) = E (64 * x + s)) (h : ∀ j, j < 64 → (lb_b w j ↔ ¬ E' (64 * x + j) &&& f y = 0)) : ∀ s, s < 64 → (lb_b (f x ||| w) s ↔ xo_thenF E f x y s) := by
  intro s hs
  unfold xo_thenF
  rw [lb_or, h s hs, sp_meP, hE s hs]
section
variable (lv ct pt : Int32) (cs : Nat → Int64) (W : Nat → Int32) (fs gs E q : Nat → Int64)
theorem xo_then3 {post : SX → Prop} {p x y : Nat} (hp : p < 32) (hx : x < p) (hy : y < p) (H : ∀ wf wg, (∀ s, s < 64 → (lb_b wf s ↔ xo_thenF E fs x y s)) → (∀ s, s < 64 → (lb_b wg s ↔ xo_thenF E gs x y s)) → post (lv, ct, pt, cs, W, vp_updL fs p wf, vp_updL gs p wg, lb_fl E (64 * p) 64 (xo_then E x y), q)) : ∀ d i, i + d = 64 → wX_workOutThen_3 post (nI p) (nI x) (nI y) lv ct pt (d + 1) (nI i) cs W fs gs (lb_fl E (64 * p) i (xo_then E x y)) q := by
  intro d
  have hx32 : x < 32 := by omega
  have hy32 : y < 32 := by omega
  have vp : vp_in (nI p) 32 := lb_vi hp (by decide)
  have vx : vp_in (nI x) 32 := lb_vi hx32 (by decide)
  have vy : vp_in (nI y) 32 := lb_vi hy32 (by decide)
  have ex : (nI x).toNatClampNeg = x := lb_cl (by omega)
  have ey : (nI y).toNatClampNeg = y := lb_cl (by omega)
  have ep : (nI p).toNatClampNeg = p := lb_cl (by omega)
  induction d with
  | zero =>
    intro i hi
    have e : i = 64 := by omega
    subst e
    refine br_t lb_64x (And.intro vx (And.intro vy (xa_mE lv ct pt cs W fs gs _ q hx32 (fun w1 h1 => And.intro vp (nm_e (And.intro vx (And.intro vy (xa_mE lv ct pt cs W _ gs _ q hx32 (fun w2 h2 => And.intro vp (nm_e ?_))))))))))
    rw [ex, ep]
    rw [ey] at h1 h2
    exact H _ _ (xo_thenw (fun s hs => xo_get hx hs) h1) (xo_thenw (fun s hs => xo_get hx hs) h2)
  | succ d ih =>
    intro i hi
    have hl : i < 64 := by omega
    refine br_f (lb_64 hl) (And.intro (lb_in1 hx32 hl rfl (by decide)) (xa_eF lv ct pt cs W fs gs _ q hy32 (fun w hw => And.intro (lb_in1 hp hl rfl (by decide)) (nm_r (xo_put hp hl ?_) (nm_r (nI_1 i) (ih (i + 1) (by omega)))))))
    apply lb_Se
    intro j hj
    rw [hw j hj, lb_at1 (by omega) hl, xo_get hx hl]
    constructor
    · intro z
      obtain ⟨t, ht, z1, z2⟩ := z
      rw [xo_get hy ht] at z2
      exact ⟨t, ht, z1, z2⟩
    · intro z
      obtain ⟨t, ht, z1, z2⟩ := z
      refine ⟨t, ht, z1, ?_⟩
      rw [xo_get hy ht]
      exact z2
theorem xo_thent {post : SX → Prop} {p x y : Nat} (hp : p < 32) (hx : x < p) (hy : y < p) (H : ∀ wf wg, (∀ s, s < 64 → (lb_b wf s ↔ xo_thenF E fs x y s)) → (∀ s, s < 64 → (lb_b wg s ↔ xo_thenF E gs x y s)) → post (lv, ct, pt, cs, W, vp_updL fs p wf, vp_updL gs p wg, lb_fl E (64 * p) 64 (xo_then E x y), q)) : wpX_workOutThen post (lv, ct, pt, cs, W, fs, gs, E, q) (nI p) (nI x) (nI y) := by
  have h := xo_then3 lv ct pt cs W fs gs E q hp hx hy H 64 0 rfl
  rw [lb_fl0] at h
  exact ⟨65, h⟩
theorem xo_if3 {post : SX → Prop} {p y z : Nat} {T : Int64} (hp : p < 32) (hy : y < p) (hz : z < p) (H : post (lv, ct, pt, cs, W, vp_updL fs p ((fs y &&& T) ||| (fs z &&& (T ^^^ (-1)))), vp_updL gs p ((gs y &&& T) ||| (gs z &&& (T ^^^ (-1)))), lb_fl E (64 * p) 64 (fun s => E (64 * xo_pick T y z s + s)), q)) : ∀ d i, i + d = 64 → wX_workOutIf_3 post (nI p) T (nI y) (nI z) lv ct pt (d + 1) (nI i) cs W fs gs (lb_fl E (64 * p) i (fun s => E (64 * xo_pick T y z s + s))) q := by
  intro d
  have hy32 : y < 32 := by omega
  have hz32 : z < 32 := by omega
  have vp : vp_in (nI p) 32 := lb_vi hp (by decide)
  have vy : vp_in (nI y) 32 := lb_vi hy32 (by decide)
  have vz : vp_in (nI z) 32 := lb_vi hz32 (by decide)
  have ey : (nI y).toNatClampNeg = y := lb_cl (by omega)
  have ez : (nI z).toNatClampNeg = z := lb_cl (by omega)
  have ep : (nI p).toNatClampNeg = p := lb_cl (by omega)
  induction d with
  | zero =>
    intro i hi
    have e : i = 64 := by omega
    subst e
    refine br_t lb_64x (And.intro vy (And.intro vz (And.intro vp (nm_e (And.intro vy (And.intro vz (And.intro vp (nm_e ?_))))))))
    rw [ey, ez, ep]
    exact H
  | succ d ih =>
    intro i hi
    have hl : i < 64 := by omega
    refine br_f (lb_64 hl) (xa_contains hl (lb_br (fun n => And.intro (lb_in1 hz32 hl rfl (by decide)) (And.intro (lb_in1 hp hl rfl (by decide)) (nm_r (xo_put hp hl ?_) (nm_r (nI_1 i) (ih (i + 1) (by omega)))))) (fun n => And.intro (lb_in1 hy32 hl rfl (by decide)) (And.intro (lb_in1 hp hl rfl (by decide)) (nm_r (xo_put hp hl ?_) (nm_r (nI_1 i) (ih (i + 1) (by omega))))))))
    · have e : xo_pick T y z i = z := if_neg n
      show _ = E (64 * xo_pick T y z i + i)
      rw [lb_at1 (by omega) hl, xo_get hz hl, e]
    · have e : xo_pick T y z i = y := if_pos n
      show _ = E (64 * xo_pick T y z i + i)
      rw [lb_at1 (by omega) hl, xo_get hy hl, e]
theorem xo_ift {post : SX → Prop} {p y z : Nat} {T : Int64} (hp : p < 32) (hy : y < p) (hz : z < p) (H : post (lv, ct, pt, cs, W, vp_updL fs p ((fs y &&& T) ||| (fs z &&& (T ^^^ (-1)))), vp_updL gs p ((gs y &&& T) ||| (gs z &&& (T ^^^ (-1)))), lb_fl E (64 * p) 64 (fun s => E (64 * xo_pick T y z s + s)), q)) : wpX_workOutIf post (lv, ct, pt, cs, W, fs, gs, E, q) (nI p) T (nI y) (nI z) := by
  have h := xo_if3 lv ct pt cs W fs gs E q hp hy hz H 64 0 rfl
  rw [lb_fl0] at h
  exact ⟨65, h⟩
theorem xo_ch3 {post : SX → Prop} {p x y : Nat} (hp : p < 32) (hx : x < p) (hy : y < p) (H : post (lv, ct, pt, cs, W, vp_updL fs p (fs x ||| fs y), vp_updL gs p (gs x ||| gs y), lb_fl E (64 * p) 64 (fun s => E (64 * x + s) ||| E (64 * y + s)), q)) : ∀ d i, i + d = 64 → wX_workOutChoose_3 post (nI p) (nI x) (nI y) lv ct pt (d + 1) (nI i) cs W fs gs (lb_fl E (64 * p) i (fun s => E (64 * x + s) ||| E (64 * y + s))) q := by
  intro d
  have hx32 : x < 32 := by omega
  have hy32 : y < 32 := by omega
  have vp : vp_in (nI p) 32 := lb_vi hp (by decide)
  have vx : vp_in (nI x) 32 := lb_vi hx32 (by decide)
  have vy : vp_in (nI y) 32 := lb_vi hy32 (by decide)
  have ex : (nI x).toNatClampNeg = x := lb_cl (by omega)
  have ey : (nI y).toNatClampNeg = y := lb_cl (by omega)
  have ep : (nI p).toNatClampNeg = p := lb_cl (by omega)
  induction d with
  | zero =>
    intro i hi
    have e : i = 64 := by omega
    subst e
    refine br_t lb_64x (And.intro vx (And.intro vy (And.intro vp (nm_e (And.intro vx (And.intro vy (And.intro vp (nm_e ?_))))))))
    rw [ex, ey, ep]
    exact H
  | succ d ih =>
    intro i hi
    have hl : i < 64 := by omega
    refine br_f (lb_64 hl) (And.intro (lb_in1 hx32 hl rfl (by decide)) (And.intro (lb_in1 hy32 hl rfl (by decide)) (And.intro (lb_in1 hp hl rfl (by decide)) (nm_r (xo_put hp hl ?_) (nm_r (nI_1 i) (ih (i + 1) (by omega)))))))
    rw [lb_at1 (by omega) hl, lb_at1 (by omega) hl, xo_get hx hl, xo_get hy hl]
theorem xo_cht {post : SX → Prop} {p x y : Nat} (hp : p < 32) (hx : x < p) (hy : y < p) (H : post (lv, ct, pt, cs, W, vp_updL fs p (fs x ||| fs y), vp_updL gs p (gs x ||| gs y), lb_fl E (64 * p) 64 (fun s => E (64 * x + s) ||| E (64 * y + s)), q)) : wpX_workOutChoose post (lv, ct, pt, cs, W, fs, gs, E, q) (nI p) (nI x) (nI y) := by
  have h := xo_ch3 lv ct pt cs W fs gs E q hp hx hy H 64 0 rfl
  rw [lb_fl0] at h
  exact ⟨65, h⟩
/-! ===== the loop ===== -/
theorem xo_wh70 {post : SX → Prop} {p y : Nat} {T f g w : Int64} (hp : p < 32) (h : sp_L E T y q w) (H : ∀ wf wg, (∀ s, s < 64 → (lb_b wf s ↔ sp_WF E T f y s)) → (∀ s, s < 64 → (lb_b wg s ↔ sp_WG E T g y s)) → post (lv, ct, pt, cs, W, vp_updL fs p wf, vp_updL gs p wg, lb_fl E (64 * p) 64 (sp_WE E T y), q)) : ∀ d i wf wg, i + d = 64 → lb_acc (sp_WF E T f y) i wf → lb_acc (sp_WG E T g y) i wg → wX_workOutWhile_70 post (nI p) T (f &&& T) (w ||| (g &&& T)) lv ct pt (d + 1) (nI i) cs W (vp_updL fs p wf) (vp_updL gs p wg) (lb_fl E (64 * p) i (sp_WE E T y)) q := by
  intro d
  have vp : vp_in (nI p) 32 := lb_vi hp (by decide)
  have ep : (nI p).toNatClampNeg = p := lb_cl (by omega)
  induction d with
  | zero =>
    intro i wf wg hi hf hg
    have e : i = 64 := by omega
    subst e
    exact br_t lb_64x (H wf wg (lb_accX hf) (lb_accX hg))
  | succ d ih =>
    intro i wf wg hi hf hg
    have hl : i < 64 := by omega
    have ei : (nI i).toNatClampNeg = i := lb_cl (by omega)
    have k2 : ∀ wf', lb_acc (sp_WF E T f y) (i + 1) wf' → wX_workOutWhile_134 post (wX_workOutWhile_70 post (nI p) T (f &&& T) (w ||| (g &&& T)) lv ct pt (d + 1)) (nI p) T (f &&& T) (w ||| (g &&& T)) (nI i) (q i ||| ((1 : Int64) <<< ((nI i).toInt64 &&& 63))) lv ct pt cs W (vp_updL fs p wf') (vp_updL gs p wg) (lb_fl E (64 * p) (i + 1) (sp_WE E T y)) q := by
      intro wf' hf'
      refine br_c (fun z => nm_r (nI_1 i) (ih (i + 1) wf' wg (by omega) hf' (lb_accF hg (fun c => (sp_LG h hl).mpr c z)))) (fun z => And.intro vp (And.intro vp (nm_r (e' := vp_updL gs p (wg ||| ((1 : Int64) <<< ((nI i).toInt64 &&& 63)))) ?_ (nm_r (nI_1 i) (ih (i + 1) wf' _ (by omega) hf' (lb_accT hl hg ((sp_LG h hl).mp z)))))))
      rw [ep, pk_uLs, lb_uuL]
    refine br_f (lb_64 hl) (And.intro (lb_vi hl (by decide)) (nm_r (e' := q i ||| ((1 : Int64) <<< ((nI i).toInt64 &&& 63))) (by rw [ei]) (And.intro (lb_in1 hp hl rfl (by decide)) (nm_r (xo_put hp hl (sp_LE h hl)) (br_c (fun z => k2 wf (lb_accF hf (fun c => (sp_LF h hl).mpr c z))) (fun z => And.intro vp (And.intro vp (nm_r (e' := vp_updL fs p (wf ||| ((1 : Int64) <<< ((nI i).toInt64 &&& 63)))) ?_ (k2 _ (lb_accT hl hf ((sp_LF h hl).mp z)))))))))))
    rw [ep, pk_uLs, lb_uuL]
theorem xo_wh28 {post : SX → Prop} {p y : Nat} {T w : Int64} (hp : p < 32) (hy : y < 32) (h : sp_L E T y q w) (H : ∀ wf wg, (∀ s, s < 64 → (lb_b wf s ↔ sp_WF E T (fs y) y s)) → (∀ s, s < 64 → (lb_b wg s ↔ sp_WG E T (gs y) y s)) → post (lv, ct, pt, cs, W, vp_updL fs p wf, vp_updL gs p wg, lb_fl E (64 * p) 64 (sp_WE E T y), q)) : wX_workOutWhile_28 post (nI p) T (nI y) w lv ct pt cs W fs gs E q := by
  have vp : vp_in (nI p) 32 := lb_vi hp (by decide)
  have vy : vp_in (nI y) 32 := lb_vi hy (by decide)
  have ey : (nI y).toNatClampNeg = y := lb_cl (by omega)
  have k := xo_wh70 lv ct pt cs W fs gs E q (f := fs y) (g := gs y) hp h H 64 0 0 0 rfl (lb_acc0 _) (lb_acc0 _)
  rw [lb_fl0] at k
  exact And.intro vy (nm_r (by rw [ey]) (And.intro vy (nm_r (by rw [ey]) (And.intro vp (nm_r (lb_uL (by omega)) (And.intro vp (nm_r (lb_uL (by omega)) ⟨65, k⟩)))))))
theorem xo_wht {post : SX → Prop} {p y : Nat} {T : Int64} (hp : p < 32) (hy : y < 32) (H : ∀ wf wg q', (∀ s, s < 64 → (lb_b wf s ↔ sp_WF E T (fs y) y s)) → (∀ s, s < 64 → (lb_b wg s ↔ sp_WG E T (gs y) y s)) → post (lv, ct, pt, cs, W, vp_updL fs p wf, vp_updL gs p wg, lb_fl E (64 * p) 64 (sp_WE E T y), q')) : wpX_workOutWhile post (lv, ct, pt, cs, W, fs, gs, E, q) (nI p) T (nI y) :=
  br_c (fun _ => xw_all lv ct pt cs W fs gs E hy (fun _ q' h => xo_wh28 lv ct pt cs W fs gs E q' hp hy h (fun wf wg h1 h2 => H wf wg q' h1 h2))) (fun _ => xc_all lv ct pt cs W fs gs E hy (fun _ q' h => xo_wh28 lv ct pt cs W fs gs E q' hp hy h (fun wf wg h1 h2 => H wf wg q' h1 h2)))
end
end
section
theorem lb_p0 {post : Int32 → Prop} {P : Prop} (h : post (lb_i P)) (n : ¬ P) : post 0 := by rw [lb_i0 n] at h; exact h
theorem lb_p1 {post : Int32 → Prop} {P : Prop} (h : post (lb_i P)) (n : P) : post 1 := by rw [lb_i1 n] at h; exact h
theorem lb_ui {b : Nat → Int32} {s : Nat} {x : Int32} (h : s < 2048) : upd b (nI s).toNatClampNeg x = upd b s x := by rw [lb_cl h]
theorem ya_in {post : Int32 → Prop} {u : SY} {x m : Int32} {P : Prop} (e : (0 ≤ x ∧ x ≤ m) ↔ P) (h : post (lb_i P)) : wpY_in post u x 0 m := by
  obtain ⟨a1, a2, a3, a4, a5, a6, a7, a8, a9, a10⟩ := u
  refine br_c (fun z => lb_p0 h (fun p => ?_)) (fun z => br_c (fun y => lb_p0 h (fun p => ?_)) (fun y => lb_p1 h (e.mp ⟨Int32.not_lt.mp z, Int32.not_lt.mp y⟩)))
  · exact Int32.not_lt.mpr (e.mpr p).1 z
  · exact Int32.not_lt.mpr (e.mpr p).2 y
theorem ya_inK {post : Int32 → Prop} {u : SY} {x m : Int32} {n : Nat} (hn : n + 1 < 2 ^ 31) (hm : m = nI n) (h : post (lb_i (lb_x (n + 1) x))) : wpY_in post u x 0 m := by
  subst hm
  exact ya_in (lb_xK hn x) h
section
variable (fc fp fg : Int32) (hd W : Nat → Int32) (E : Nat → Int64) (F G b r : Nat → Int32)
theorem ya_isCond {post : Int32 → Prop} {c : Nat} {x : Int32} (hc : c ≤ 24) (h : post (lb_i (lb_x c x))) : wpY_isCondition post (nI c, fp, fg, hd, W, E, F, G, b, r) x := by
  unfold wpY_isCondition
  exact ya_in (lb_xJ (n := c) (by omega) x) (And.intro (lb_nar _) h)
theorem ya_isProg {post : Int32 → Prop} {p : Nat} {x : Int32} (hp : p ≤ 32) (h : post (lb_i (lb_x p x))) : wpY_isProgram post (fc, nI p, fg, hd, W, E, F, G, b, r) x := by
  unfold wpY_isProgram
  exact ya_in (lb_xJ (n := p) (by omega) x) (And.intro (lb_nar _) h)
/-! ===== take: row a takes what row j has ===== -/
theorem yt_47 {post : SY → Prop} {a j : Nat} {z0 f : Int32} {PP Q Q' : Prop} (ha : a < 2048) (hj : j < 2048) (hne : j ≠ a) (hz : z0 = lb_i PP) (hG : G j = lb_i Q') (H : post (fc, fp, fg, hd, W, E, upd F a (lb_i PP), upd G a (lb_i (Q ∨ Q')), b, r)) : wY_take_47 post (nI a) (nI j) z0 (nI a) fc fp fg hd W E (upd F a f) (upd G a (lb_i Q)) b r := by
  subst hz
  have va : vp_in (nI a) 2048 := lb_vi ha (by decide)
  have vj : vp_in (nI j) 2048 := lb_vi hj (by decide)
  have ea : (nI a).toNatClampNeg = a := lb_cl ha
  have ej : (nI j).toNatClampNeg = j := lb_cl hj
  refine And.intro va (nm_r (e' := upd F a (lb_i PP)) (by rw [ea, lb_uu, lb_vn]) (And.intro va (br_c (fun z => And.intro vj (br_c (fun y => And.intro va (nm_r (e' := upd G a (lb_i (Q ∨ Q'))) ?_ H)) (fun y => And.intro va (nm_r (e' := upd G a (lb_i (Q ∨ Q'))) ?_ H)))) (fun z => And.intro va (nm_r (e' := upd G a (lb_i (Q ∨ Q'))) ?_ H)))))
  · rw [ea, pk_us] at z
    rw [ej, pk_un hne, hG] at y
    rw [ea, lb_uu, lb_v0, lb_i0 (fun c => c.elim (lb_iz.mp z) (lb_iz.mp y))]
  · rw [ej, pk_un hne, hG] at y
    rw [ea, lb_uu, lb_v1, lb_i1 (Or.inr (lb_in.mp y))]
  · rw [ea, pk_us] at z
    rw [ea, lb_uu, lb_v1, lb_i1 (Or.inl (lb_in.mp z))]
theorem yt_take {post : SY → Prop} {a j : Nat} {e : Int64} {P P' Q Q' : Prop} (ha : a < 2048) (hj : j < 2048) (hne : j ≠ a) (hF : F j = lb_i P') (hG : G j = lb_i Q') (H : post (fc, fp, fg, hd, W, vp_updL E a (e ||| E j), upd F a (lb_i (P ∨ P')), upd G a (lb_i (Q ∨ Q')), b, r)) : wpY_take post (fc, fp, fg, hd, W, vp_updL E a e, upd F a (lb_i P), upd G a (lb_i Q), b, r) (nI a) (nI j) := by
  have va : vp_in (nI a) 2048 := lb_vi ha (by decide)
  have vj : vp_in (nI j) 2048 := lb_vi hj (by decide)
  have ea : (nI a).toNatClampNeg = a := lb_cl ha
  have ej : (nI j).toNatClampNeg = j := lb_cl hj
  refine And.intro va (And.intro vj (And.intro va (nm_r (e' := vp_updL E a (e ||| E j)) (by rw [ea, ej, pk_uLs, pk_uLn hne, lb_uuL]) (And.intro va (br_c (fun z => And.intro vj (br_c (fun y => ?_) (fun y => ?_))) (fun z => ?_))))))
  · rw [ea, pk_us] at z
    rw [ej, pk_un hne, hF] at y
    exact yt_47 fc fp fg hd W _ F G b r ha hj hne (lb_i0 (fun c => c.elim (lb_iz.mp z) (lb_iz.mp y))).symm hG H
  · rw [ej, pk_un hne, hF] at y
    exact yt_47 fc fp fg hd W _ F G b r ha hj hne (lb_i1 (Or.inr (lb_in.mp y))).symm hG H
  · rw [ea, pk_us] at z
    exact yt_47 fc fp fg hd W _ F G b r ha hj hne (lb_i1 (Or.inl (lb_in.mp z))).symm hG H
/-! ===== follow ===== -/
theorem yf_27 {post : SY → Prop} {a f y : Nat} {P0 Q0 : Prop} {FF GG : Nat → Prop} (ha : a < 2048) (hf : f < 2048) (hfa : f ≠ a) (hy : 64 * y + 64 ≤ a) (hF : ∀ t, t < 64 → F (64 * y + t) = lb_i (FF t)) (hG : ∀ t, t < 64 → G (64 * y + t) = lb_i (GG t)) (H : ∀ e, (∀ j, j < 64 → (lb_b e j ↔ ∃ t, t < 64 ∧ lb_b (E f) t ∧ lb_b (E (64 * y + t)) j)) → post (fc, fp, fg, hd, W, vp_updL E a e, upd F a (lb_i (P0 ∨ ∃ t, t < 64 ∧ lb_b (E f) t ∧ FF t)), upd G a (lb_i (Q0 ∨ ∃ t, t < 64 ∧ lb_b (E f) t ∧ GG t)), b, r)) : ∀ d i e, i + d = 64 → lb_uni (fun t => E (64 * y + t)) (lb_b (E f)) i e → wY_follow_27 post (nI a) (nI f) (nI y) (d + 1) (nI i) fc fp fg hd W (vp_updL E a e) (upd F a (lb_i (P0 ∨ ∃ t, t < i ∧ lb_b (E f) t ∧ FF t))) (upd G a (lb_i (Q0 ∨ ∃ t, t < i ∧ lb_b (E f) t ∧ GG t))) b r := by
  have vf : vp_in (nI f) 2048 := lb_vi hf (by decide)
  have ef : (nI f).toNatClampNeg = f := lb_cl hf
  have kT : ∀ (A : Prop) (X : Nat → Prop) (i : Nat), lb_b (E f) i → ((A ∨ ∃ t, t < i ∧ lb_b (E f) t ∧ X t) ∨ X i ↔ (A ∨ ∃ t, t < i + 1 ∧ lb_b (E f) t ∧ X t)) := by
    intro A X i p
    rw [lb_exS (P := fun t => lb_b (E f) t ∧ X t)]
    constructor
    · intro z
      rcases z with (z | z) | z
      · exact Or.inl z
      · exact Or.inr (Or.inl z)
      · exact Or.inr (Or.inr ⟨p, z⟩)
    · intro z
      rcases z with z | z | z
      · exact Or.inl (Or.inl z)
      · exact Or.inl (Or.inr z)
      · exact Or.inr z.2
  have kF : ∀ (A : Prop) (X : Nat → Prop) (i : Nat), ¬ lb_b (E f) i → ((A ∨ ∃ t, t < i ∧ lb_b (E f) t ∧ X t) ↔ (A ∨ ∃ t, t < i + 1 ∧ lb_b (E f) t ∧ X t)) := by
    intro A X i p
    rw [lb_exF (P := fun t => lb_b (E f) t ∧ X t) (fun z => p z.1)]
  intro d
  induction d with
  | zero =>
    intro i e hi h
    have e64 : i = 64 := by omega
    subst e64
    exact br_t lb_64x (H e h)
  | succ d ih =>
    intro i e hi h
    have hl : i < 64 := by omega
    refine br_f (lb_64 hl) (And.intro vf (br_c (fun z => ?_) (fun z => nm_r (nI_1 i) ?_)))
    · rw [ef, pk_uLn hfa, lb_t1 hl] at z
      rw [lb_ix2]
      refine yt_take fc fp fg hd W E F G b r ha (by omega) (by omega) (hF i hl) (hG i hl) (nm_r (nI_1 i) ?_)
      rw [lb_ic (kT P0 FF i z), lb_ic (kT Q0 GG i z)]
      exact ih (i + 1) _ (by omega) (lb_uniT h z)
    · rw [ef, pk_uLn hfa, lb_t1 hl] at z
      rw [lb_ic (kF P0 FF i z), lb_ic (kF Q0 GG i z)]
      exact ih (i + 1) e (by omega) (lb_uniF h z)
theorem yf_follow {post : SY → Prop} {a f y : Nat} {P0 Q0 : Prop} {FF GG : Nat → Prop} {z1 z2 : Int32} (ha : a < 2048) (hf : f < 2048) (hfa : f ≠ a) (hy : 64 * y + 64 ≤ a) (hP : F f = lb_i P0) (hQ : G f = lb_i Q0) (hF : ∀ t, t < 64 → F (64 * y + t) = lb_i (FF t)) (hG : ∀ t, t < 64 → G (64 * y + t) = lb_i (GG t)) (H : ∀ e, (∀ j, j < 64 → (lb_b e j ↔ ∃ t, t < 64 ∧ lb_b (E f) t ∧ lb_b (E (64 * y + t)) j)) → post (fc, fp, fg, hd, W, vp_updL E a e, upd F a (lb_i (P0 ∨ ∃ t, t < 64 ∧ lb_b (E f) t ∧ FF t)), upd G a (lb_i (Q0 ∨ ∃ t, t < 64 ∧ lb_b (E f) t ∧ GG t)), b, r)) : wpY_follow post (fc, fp, fg, hd, W, vp_updL E a 0, upd F a z1, upd G a z2, b, r) (nI a) (nI f) (nI y) := by
  have va : vp_in (nI a) 2048 := lb_vi ha (by decide)
  have vf : vp_in (nI f) 2048 := lb_vi hf (by decide)
  have ea : (nI a).toNatClampNeg = a := lb_cl ha
  have ef : (nI f).toNatClampNeg = f := lb_cl hf
  have k := yf_27 fc fp fg hd W E F G b r (P0 := P0) (Q0 := Q0) ha hf hfa hy hF hG H 64 0 0 rfl (lb_uni0 _ _)
  have k0 : ∀ (A : Prop) (X : Nat → Prop), (A ∨ ∃ t, t < 0 ∧ lb_b (E f) t ∧ X t) ↔ A := fun A X => ⟨fun z => z.elim id (fun z => by obtain ⟨t, ht, _⟩ := z; omega), Or.inl⟩
  rw [lb_ic (k0 P0 FF), lb_ic (k0 Q0 GG)] at k
  exact And.intro vf (And.intro va (nm_r (e' := upd F a (lb_i P0)) (by rw [ea, ef, pk_un hfa, hP, lb_vn, lb_uu]) (And.intro vf (And.intro va (nm_r (e' := upd G a (lb_i Q0)) (by rw [ea, ef, pk_un hfa, hQ, lb_vn, lb_uu]) ⟨65, k⟩)))))
end
end
section
section
variable (fc fp fg : Int32) (hd W : Nat → Int32) (E : Nat → Int64) (F G b r : Nat → Int32)
/-! ===== reach, spread ===== -/
theorem yr_2 {post : SY → Prop} {w : Int64} {g : Int32} (H : ∀ b' g', sr_ri w b g 64 b' g' → post (fc, fp, g', hd, W, E, F, G, b', r)) : ∀ d i b' g', i + d = 64 → sr_ri w b g i b' g' → wY_reach_2 post w fc fp (d + 1) (nI i) g' hd W E F G b' r := by
  intro d
  induction d with
  | zero =>
    intro i b' g' hi h
    have e : i = 64 := by omega
    subst e
    exact br_t lb_64x (H b' g' h)
  | succ d ih =>
    intro i b' g' hi h
    have hl : i < 64 := by omega
    have vi : vp_in (nI i) 64 := lb_vi hl (by decide)
    have ei : (nI i).toNatClampNeg = i := lb_cl (by omega)
    refine br_f (lb_64 hl) (br_c (fun z => And.intro vi (br_c (fun y => And.intro vi (nm_r (e' := upd b' i 1) (by rw [ei, lb_v1]) (nm_r (nI_1 i) ?_))) (fun y => nm_r (nI_1 i) ?_))) (fun z => nm_r (nI_1 i) ?_))
    · rw [lb_t1 hl] at z
      rw [ei] at y
      exact ih (i + 1) _ _ (by omega) (sr_rt hl h z y)
    · rw [ei] at y
      exact ih (i + 1) _ _ (by omega) (sr_ro hl h y)
    · rw [lb_t1 hl] at z
      exact ih (i + 1) _ _ (by omega) (sr_rn h z)
theorem yr_reach {post : SY → Prop} {w : Int64} {g : Int32} (hb : ∀ u, u < 64 → b u = lb_i (¬ b u = 0)) (H : ∀ b' g', sr_ri w b g 64 b' g' → post (fc, fp, g', hd, W, E, F, G, b', r)) : wpY_reach post (fc, fp, g, hd, W, E, F, G, b, r) w := ⟨65, yr_2 fc fp hd W E F G b r H 64 0 b g rfl (sr_r0 hb)⟩
theorem ys_64 {post : SY → Prop} {J : Int32 → Int32 → Int32 → Int32 → (Nat → Int32) → (Nat → Int32) → (Nat → Int64) → (Nat → Int32) → (Nat → Int32) → (Nat → Int32) → (Nat → Int32) → Prop} {c y s k : Nat} {T : Int64} {B : Nat → Prop} (hc : c < 24) (hy : y < 32) (hT : ∀ t, t < 64 → hd (64 * c + t) = lb_i (lb_b T t)) (HJ : ∀ b' g', sr_J E T y s B 64 b' g' → J (nI (k + 1)) fc fp g' hd W E F G b' r) : ∀ d i b' g', i + d = 64 → sr_J E T y s B i b' g' → wY_spread_64 post J (nI c) (nI y) (nI k) (d + 1) (nI i) fc fp g' hd W E F G b' r := by
  intro d
  induction d with
  | zero =>
    intro i b' g' hi h
    have e : i = 64 := by omega
    subst e
    exact br_t lb_64x (nm_r (nI_1 k) (HJ b' g' h))
  | succ d ih =>
    intro i b' g' hi h
    have hl : i < 64 := by omega
    have vi : vp_in (nI i) 64 := lb_vi hl (by decide)
    have ei : (nI i).toNatClampNeg = i := lb_cl (by omega)
    have eh : hd ((64 * nI c) + nI i).toNatClampNeg = lb_i (lb_b T i) := by rw [lb_at2 (by omega) hl, hT i hl]
    refine br_f (lb_64 hl) (And.intro vi (br_c (fun z => nm_r (nI_1 i) ?_) (fun z => And.intro (lb_in2 hc hl rfl (by decide)) (br_c (fun x => nm_r (nI_1 i) ?_) (fun x => And.intro (lb_in2 hy hl rfl (by decide)) ?_)))))
    · rw [ei] at z
      exact ih (i + 1) _ _ (by omega) (sr_Jn hl h (Or.inl z))
    · rw [eh] at x
      exact ih (i + 1) _ _ (by omega) (sr_Jn hl h (Or.inr (lb_iz.mp x)))
    · rw [eh] at x
      rw [ei] at z
      rw [lb_at2 (by omega) hl]
      exact yr_reach fc fp hd W E F G b' r (sr_Jb h) (fun b2 g2 h2 => nm_r (nI_1 i) (ih (i + 1) b2 g2 (by omega) (sr_Jr hl h z (lb_in.mp x) h2)))
theorem ys_42 {post : SY → Prop} {c y s : Nat} {T : Int64} (hc : c < 24) (hy : y < 32) (hs : s < 64) (hT : ∀ t, t < 64 → hd (64 * c + t) = lb_i (lb_b T t)) (H : ∀ b' g', (∀ u, u < 64 → b' u = lb_i (gr_R (sp_e E T y) s u)) → post (fc, fp, g', hd, W, E, F, G, b', r)) : ∀ d k b' g', k + d = 64 → sr_K E T y s k b' g' → wY_spread_42 post (nI c) (nI y) (d + 1) (nI k) fc fp g' hd W E F G b' r := by
  intro d
  induction d with
  | zero =>
    intro k b' g' hk h
    have e : k = 64 := by omega
    subst e
    exact br_t lb_64x (H b' g' (sr_Kx h (Or.inr (by omega))))
  | succ d ih =>
    intro k b' g' hk h
    have hl : k < 64 := by omega
    refine br_f (lb_64 hl) (br_c (fun z => H b' g' (sr_Kx h (Or.inl z))) (fun z => ?_))
    obtain ⟨B, h1, h2, h3⟩ := sr_KJ h z
    exact ⟨65, ys_64 fc fp hd W E F G r hc hy hT (fun b2 g2 h4 => ih (k + 1) b2 g2 (by omega) (sr_JK hs h4 h2 h3)) 64 0 b' 0 rfl h1⟩
theorem ys_3 {post : SY → Prop} {c y s : Nat} {T : Int64} {g : Int32} (hc : c < 24) (hy : y < 32) (hs : s < 64) (hT : ∀ t, t < 64 → hd (64 * c + t) = lb_i (lb_b T t)) (H : ∀ b' g', (∀ u, u < 64 → b' u = lb_i (gr_R (sp_e E T y) s u)) → post (fc, fp, g', hd, W, E, F, G, b', r)) : ∀ d i b', i + d = 64 → (∀ u, u < i → b' u = lb_i (u = s)) → wY_spread_3 post (nI s) (nI c) (nI y) fc fp g (d + 1) (nI i) hd W E F G b' r := by
  intro d
  induction d with
  | zero =>
    intro i b' hi h
    have e : i = 64 := by omega
    subst e
    exact br_t lb_64x ⟨65, ys_42 fc fp hd W E F G r hc hy hs hT H 64 0 b' 1 rfl (sr_K0 hs h)⟩
  | succ d ih =>
    intro i b' hi h
    have hl : i < 64 := by omega
    have vi : vp_in (nI i) 64 := lb_vi hl (by decide)
    have ei : (nI i).toNatClampNeg = i := lb_cl (by omega)
    refine br_f (lb_64 hl) (br_c (fun z => And.intro vi (nm_r (e' := upd b' i 1) (by rw [ei, lb_v1]) (nm_r (nI_1 i) (ih (i + 1) _ (by omega) ?_)))) (fun z => And.intro vi (nm_r (e' := upd b' i 0) (by rw [ei, lb_v0]) (nm_r (nI_1 i) (ih (i + 1) _ (by omega) ?_)))))
    · rw [nI_eq (by omega) (by omega)] at z
      intro u hu
      by_cases e : u = i
      · subst e
        rw [pk_us, lb_i1 z]
      · rw [pk_un e]
        exact h u (by omega)
    · rw [nI_eq (by omega) (by omega)] at z
      intro u hu
      by_cases e : u = i
      · subst e
        rw [pk_us, lb_i0 z]
      · rw [pk_un e]
        exact h u (by omega)
theorem ys_spread {post : SY → Prop} {c y s : Nat} {T : Int64} {g : Int32} (hc : c < 24) (hy : y < 32) (hs : s < 64) (hT : ∀ t, t < 64 → hd (64 * c + t) = lb_i (lb_b T t)) (H : ∀ b' g', (∀ u, u < 64 → b' u = lb_i (gr_R (sp_e E T y) s u)) → post (fc, fp, g', hd, W, E, F, G, b', r)) : wpY_spread post (fc, fp, g, hd, W, E, F, G, b, r) (nI s) (nI c) (nI y) :=
  ⟨65, ys_3 fc fp hd W E F G r hc hy hs hT H 64 0 b rfl (fun u hu => by omega)⟩
/-! ===== hasNext, findRounds ===== -/
theorem yh_2 {post : Int32 → Prop} {w : Int64} (h : post (lb_i (∃ u, u < 64 ∧ lb_b w u ∧ ¬ r u = 0))) : ∀ d i, i + d = 64 → (¬ ∃ u, u < i ∧ lb_b w u ∧ ¬ r u = 0) → wY_hasNext_2 post w fc fp fg hd W E F G b r (d + 1) (nI i) := by
  intro d
  induction d with
  | zero =>
    intro i hi n
    have e : i = 64 := by omega
    subst e
    exact br_t lb_64x (lb_p0 h n)
  | succ d ih =>
    intro i hi n
    have hl : i < 64 := by omega
    have vi : vp_in (nI i) 64 := lb_vi hl (by decide)
    have ei : (nI i).toNatClampNeg = i := lb_cl (by omega)
    refine br_f (lb_64 hl) (br_c (fun z => And.intro vi (br_c (fun y => nm_r (nI_1 i) (ih (i + 1) (by omega) ?_)) (fun y => lb_p1 h ?_))) (fun z => nm_r (nI_1 i) (ih (i + 1) (by omega) ?_)))
    · rw [ei] at y
      rw [lb_exF (P := fun u => lb_b w u ∧ ¬ r u = 0) (fun c => c.2 y)]
      exact n
    · rw [ei] at y
      rw [lb_t1 hl] at z
      exact ⟨i, hl, z, y⟩
    · rw [lb_t1 hl] at z
      rw [lb_exF (P := fun u => lb_b w u ∧ ¬ r u = 0) (fun c => z c.1)]
      exact n
theorem yh_next {post : Int32 → Prop} {w : Int64} (h : post (lb_i (∃ u, u < 64 ∧ lb_b w u ∧ ¬ r u = 0))) : wpY_hasNext post (fc, fp, fg, hd, W, E, F, G, b, r) w := ⟨65, yh_2 fc fp fg hd W E F G b r h 64 0 rfl (fun z => by obtain ⟨u, hu, _⟩ := z; omega)⟩
theorem yn_76 {post : SY → Prop} {J : Int32 → Int32 → (Nat → Int32) → (Nat → Int32) → (Nat → Int64) → (Nat → Int32) → (Nat → Int32) → (Nat → Int32) → (Nat → Int32) → Prop} {y s k : Nat} {T : Int64} {A : Nat → Prop} (hy : y < 32) (HJ : ∀ r' g', sr_M E T y s A 64 r' g' → J (nI (k + 1)) g' hd W E F G b r') : ∀ d i r' g', i + d = 64 → sr_M E T y s A i r' g' → wY_findRounds_76 post J (nI y) (nI k) fc fp (d + 1) (nI i) g' hd W E F G b r' := by
  intro d
  induction d with
  | zero =>
    intro i r' g' hi h
    have e : i = 64 := by omega
    subst e
    exact br_t lb_64x (nm_r (nI_1 k) (HJ r' g' h))
  | succ d ih =>
    intro i r' g' hi h
    have hl : i < 64 := by omega
    have vi : vp_in (nI i) 64 := lb_vi hl (by decide)
    have ei : (nI i).toNatClampNeg = i := lb_cl (by omega)
    have ee : ((64 * nI y) + nI i).toNatClampNeg = 64 * y + i := lb_at2 (by omega) hl
    refine br_f (lb_64 hl) (And.intro vi (br_c (fun z => nm_r (nI_1 i) ?_) (fun z => And.intro (lb_in2 hy hl rfl (by decide)) (yh_next fc fp g' hd W E F G b r' (lb_br (fun x => And.intro vi (nm_r (e' := upd r' i 0) (by rw [ei, lb_v0]) (nm_r (nI_1 i) ?_))) (fun x => nm_r (nI_1 i) ?_))))))
    · rw [ei] at z
      exact ih (i + 1) _ _ (by omega) (sr_Mn hl h (Or.inl z))
    · rw [ei] at z
      rw [ee] at x
      exact ih (i + 1) _ _ (by omega) (sr_Mr hl h z x)
    · rw [ee] at x
      exact ih (i + 1) _ _ (by omega) (sr_Mn hl h (Or.inr x))
theorem yn_55 {post : SY → Prop} {y s : Nat} {T : Int64} (hy : y < 32) (hs : s < 64) (H : ∀ r' g', (∀ u, u < 64 → r' u = lb_i (gr_R (sp_e E T y) s u ∧ gr_inf (sp_e E T y) u)) → post (fc, fp, g', hd, W, E, F, G, b, r')) : ∀ d k r' g', k + d = 64 → sr_N E T y s k r' g' → wY_findRounds_55 post (nI y) fc fp (d + 1) (nI k) g' hd W E F G b r' := by
  intro d
  induction d with
  | zero =>
    intro k r' g' hk h
    have e : k = 64 := by omega
    subst e
    exact br_t lb_64x (H r' g' (sr_Nx hs h (Or.inr (by omega))))
  | succ d ih =>
    intro k r' g' hk h
    have hl : k < 64 := by omega
    refine br_f (lb_64 hl) (br_c (fun z => H r' g' (sr_Nx hs h (Or.inl z))) (fun z => ?_))
    obtain ⟨A, h1, h2, h3⟩ := sr_NM h z
    exact ⟨65, yn_76 fc fp hd W E F G b hy (fun r2 g2 h4 => ih (k + 1) r2 g2 (by omega) (sr_MN hs h4 h2 h3)) 64 0 r' 0 rfl h1⟩
theorem yn_2 {post : SY → Prop} {c y s : Nat} {T : Int64} {g : Int32} (hc : c < 24) (hy : y < 32) (hs : s < 64) (hT : ∀ t, t < 64 → hd (64 * c + t) = lb_i (lb_b T t)) (hb : ∀ u, u < 64 → b u = lb_i (gr_R (sp_e E T y) s u)) (H : ∀ r' g', (∀ u, u < 64 → r' u = lb_i (gr_R (sp_e E T y) s u ∧ gr_inf (sp_e E T y) u)) → post (fc, fp, g', hd, W, E, F, G, b, r')) : ∀ d i r', i + d = 64 → (∀ u, u < i → r' u = lb_i (gr_R (sp_e E T y) s u ∧ lb_b T u)) → wY_findRounds_2 post (nI c) (nI y) fc fp g (d + 1) (nI i) hd W E F G b r' := by
  intro d
  induction d with
  | zero =>
    intro i r' hi h
    have e : i = 64 := by omega
    subst e
    exact br_t lb_64x ⟨65, yn_55 fc fp hd W E F G b hy hs H 64 0 r' 1 rfl (sr_N0 h)⟩
  | succ d ih =>
    intro i r' hi h
    have hl : i < 64 := by omega
    have vi : vp_in (nI i) 64 := lb_vi hl (by decide)
    have ei : (nI i).toNatClampNeg = i := lb_cl (by omega)
    have eh : hd ((64 * nI c) + nI i).toNatClampNeg = lb_i (lb_b T i) := by rw [lb_at2 (by omega) hl, hT i hl]
    have st : ∀ v, v = lb_i (gr_R (sp_e E T y) s i ∧ lb_b T i) → ∀ u, u < i + 1 → upd r' i v u = lb_i (gr_R (sp_e E T y) s u ∧ lb_b T u) := by
      intro v hv u hu
      by_cases e : u = i
      · subst e
        rw [pk_us, hv]
      · rw [pk_un e]
        exact h u (by omega)
    refine br_f (lb_64 hl) (And.intro vi (br_c (fun z => And.intro vi (nm_r (e' := upd r' i 0) (by rw [ei, lb_v0]) (nm_r (nI_1 i) (ih (i + 1) _ (by omega) (st 0 ?_))))) (fun z => And.intro (lb_in2 hc hl rfl (by decide)) (br_c (fun x => And.intro vi (nm_r (e' := upd r' i 0) (by rw [ei, lb_v0]) (nm_r (nI_1 i) (ih (i + 1) _ (by omega) (st 0 ?_))))) (fun x => And.intro vi (nm_r (e' := upd r' i 1) (by rw [ei, lb_v1]) (nm_r (nI_1 i) (ih (i + 1) _ (by omega) (st 1 ?_)))))))))
    · rw [ei, hb i hl] at z
      exact (lb_i0 (fun c => lb_iz.mp z c.1)).symm
    · rw [eh] at x
      exact (lb_i0 (fun c => lb_iz.mp x c.2)).symm
    · rw [ei, hb i hl] at z
      rw [eh] at x
      exact (lb_i1 ⟨lb_in.mp z, lb_in.mp x⟩).symm
theorem yn_find {post : SY → Prop} {c y s : Nat} {T : Int64} {g : Int32} (hc : c < 24) (hy : y < 32) (hs : s < 64) (hT : ∀ t, t < 64 → hd (64 * c + t) = lb_i (lb_b T t)) (hb : ∀ u, u < 64 → b u = lb_i (gr_R (sp_e E T y) s u)) (H : ∀ r' g', (∀ u, u < 64 → r' u = lb_i (gr_R (sp_e E T y) s u ∧ gr_inf (sp_e E T y) u)) → post (fc, fp, g', hd, W, E, F, G, b, r')) : wpY_findRounds post (fc, fp, g, hd, W, E, F, G, b, r) (nI c) (nI y) :=
  ⟨65, yn_2 fc fp hd W E F G b hc hy hs hT hb H 64 0 r rfl (fun u hu => by omega)⟩
end
end
section
theorem sp_ec {E E' : Nat → Int64} {T : Int64} {y : Nat} (h : ∀ t, t < 64 → E' (64 * y + t) = E (64 * y + t)) : sp_e E' T y = sp_e E T y := by
  funext t u
  apply propext
  unfold sp_e
  constructor
  · intro z
    have ht := lb_lt z.1
    rw [h t ht] at z
    exact z
  · intro z
    have ht := lb_lt z.1
    rw [← h t ht] at z
    exact z
section
variable (fc fp fg : Int32) (hd W : Nat → Int32) (E : Nat → Int64) (F G b r : Nat → Int32)
theorem yl_127 {post : SY → Prop} {J : Int32 → (Nat → Int32) → (Nat → Int32) → (Nat → Int64) → (Nat → Int32) → (Nat → Int32) → (Nat → Int32) → (Nat → Int32) → Prop} {a c y i : Nat} {z0 f : Int32} {PP Q g1 g2 : Prop} (ha : a < 2048) (hy : y < 32) (hi : i < 64) (hya : 64 * y + 64 ≤ a) (hz : z0 = lb_i PP) (hG : G (64 * y + i) = lb_i g1) (hr : r i = lb_i g2) (H : J (nI (i + 1)) hd W E (upd F a (lb_i PP)) (upd G a (lb_i (Q ∨ g1 ∨ g2))) b r) : wY_loop_127 post J (nI a) (nI c) (nI y) (nI i) z0 (nI a) fc fp fg hd W E (upd F a f) (upd G a (lb_i Q)) b r := by
  subst hz
  have va : vp_in (nI a) 2048 := lb_vi ha (by decide)
  have vi : vp_in (nI i) 64 := lb_vi hi (by decide)
  have vj : vp_in ((64 * nI y) + nI i) 2048 := lb_in2 hy hi rfl (by decide)
  have ea : (nI a).toNatClampNeg = a := lb_cl ha
  have ei : (nI i).toNatClampNeg = i := lb_cl (by omega)
  have ej : ((64 * nI y) + nI i).toNatClampNeg = 64 * y + i := lb_at2 (by omega) hi
  have hne : 64 * y + i ≠ a := by omega
  refine And.intro va (nm_r (e' := upd F a (lb_i PP)) (by rw [ea, lb_uu, lb_vn]) (And.intro va (br_c (fun z => And.intro vj (br_c (fun x => And.intro vi (br_c (fun w => And.intro va (nm_r (e' := upd G a (lb_i (Q ∨ g1 ∨ g2))) ?_ (nm_r (nI_1 i) H))) (fun w => And.intro va (nm_r (e' := upd G a (lb_i (Q ∨ g1 ∨ g2))) ?_ (nm_r (nI_1 i) H))))) (fun x => And.intro va (nm_r (e' := upd G a (lb_i (Q ∨ g1 ∨ g2))) ?_ (nm_r (nI_1 i) H))))) (fun z => And.intro va (nm_r (e' := upd G a (lb_i (Q ∨ g1 ∨ g2))) ?_ (nm_r (nI_1 i) H))))))
  · rw [ea, pk_us] at z
    rw [ej, pk_un hne, hG] at x
    rw [ei, hr] at w
    rw [ea, lb_uu, lb_v0, lb_i0 (fun c => c.elim (lb_iz.mp z) (fun c => c.elim (lb_iz.mp x) (lb_iz.mp w)))]
  · rw [ei, hr] at w
    rw [ea, lb_uu, lb_v1, lb_i1 (Or.inr (Or.inr (lb_in.mp w)))]
  · rw [ej, pk_un hne, hG] at x
    rw [ea, lb_uu, lb_v1, lb_i1 (Or.inr (Or.inl (lb_in.mp x)))]
  · rw [ea, pk_us] at z
    rw [ea, lb_uu, lb_v1, lb_i1 (Or.inl (lb_in.mp z))]
theorem yl_67 {post : SY → Prop} {J : Int32 → (Nat → Int32) → (Nat → Int32) → (Nat → Int64) → (Nat → Int32) → (Nat → Int32) → (Nat → Int32) → (Nat → Int32) → Prop} {a c y i : Nat} {P Q P' Q' Ri Ti Ii f1 g1 : Prop} (ha : a < 2048) (hc : c < 24) (hy : y < 32) (hi : i < 64) (hya : 64 * y + 64 ≤ a) (hT : hd (64 * c + i) = lb_i Ti) (hF : F (64 * y + i) = lb_i f1) (hG : G (64 * y + i) = lb_i g1) (hb : b i = lb_i Ri) (hr : r i = lb_i (Ri ∧ Ii)) (hP : P' ↔ (P ∨ ((Ri ∧ Ti) ∧ f1))) (hQ : Q' ↔ (Q ∨ ((Ri ∧ Ti) ∧ (g1 ∨ Ii)))) (H : J (nI (i + 1)) hd W E (upd F a (lb_i P')) (upd G a (lb_i Q')) b r) : wY_loop_67 post J (nI a) (nI c) (nI y) (nI i) fc fp fg hd W E (upd F a (lb_i P)) (upd G a (lb_i Q)) b r := by
  have va : vp_in (nI a) 2048 := lb_vi ha (by decide)
  have vi : vp_in (nI i) 64 := lb_vi hi (by decide)
  have vj : vp_in ((64 * nI y) + nI i) 2048 := lb_in2 hy hi rfl (by decide)
  have ea : (nI a).toNatClampNeg = a := lb_cl ha
  have ei : (nI i).toNatClampNeg = i := lb_cl (by omega)
  have ej : ((64 * nI y) + nI i).toNatClampNeg = 64 * y + i := lb_at2 (by omega) hi
  have ec : ((64 * nI c) + nI i).toNatClampNeg = 64 * c + i := lb_at2 (by omega) hi
  have hne : 64 * y + i ≠ a := by omega
  have kn : ¬ (Ri ∧ Ti) → J (nI (i + 1)) hd W E (upd F a (lb_i P)) (upd G a (lb_i Q)) b r := by
    intro n
    have e1 : P' ↔ P := hP.trans ⟨fun z => z.elim id (fun z => absurd z.1 n), Or.inl⟩
    have e2 : Q' ↔ Q := hQ.trans ⟨fun z => z.elim id (fun z => absurd z.1 n), Or.inl⟩
    rw [lb_ic e1, lb_ic e2] at H
    exact H
  refine And.intro vi (br_c (fun z => nm_r (nI_1 i) (kn ?_)) (fun z => And.intro (lb_in2 hc hi rfl (by decide)) (br_c (fun x => nm_r (nI_1 i) (kn ?_)) (fun x => ?_))))
  · rw [ei, hb] at z
    exact fun c => lb_iz.mp z c.1
  · rw [ec, hT] at x
    exact fun c => lb_iz.mp x c.2
  · rw [ei, hb] at z
    rw [ec, hT] at x
    have hR := lb_in.mp z
    have hTi := lb_in.mp x
    have e1 : P' ↔ (P ∨ f1) := hP.trans ⟨fun z => z.elim Or.inl (fun z => Or.inr z.2), fun z => z.elim Or.inl (fun z => Or.inr ⟨⟨hR, hTi⟩, z⟩)⟩
    have e2 : Q' ↔ (Q ∨ g1 ∨ (Ri ∧ Ii)) := hQ.trans ⟨fun z => z.elim Or.inl (fun z => z.2.elim (fun z => Or.inr (Or.inl z)) (fun z => Or.inr (Or.inr ⟨hR, z⟩))), fun z => z.elim Or.inl (fun z => z.elim (fun z => Or.inr ⟨⟨hR, hTi⟩, Or.inl z⟩) (fun z => Or.inr ⟨⟨hR, hTi⟩, Or.inr z.2⟩))⟩
    rw [lb_ic e1, lb_ic e2] at H
    refine And.intro va (br_c (fun w => And.intro vj (br_c (fun v => ?_) (fun v => ?_))) (fun w => ?_))
    · rw [ea, pk_us] at w
      rw [ej, pk_un hne, hF] at v
      exact yl_127 fc fp fg hd W E F G b r ha hy hi hya (lb_i0 (fun c => c.elim (lb_iz.mp w) (lb_iz.mp v))).symm hG hr H
    · rw [ej, pk_un hne, hF] at v
      exact yl_127 fc fp fg hd W E F G b r ha hy hi hya (lb_i1 (Or.inr (lb_in.mp v))).symm hG hr H
    · rw [ea, pk_us] at w
      exact yl_127 fc fp fg hd W E F G b r ha hy hi hya (lb_i1 (Or.inl (lb_in.mp w))).symm hG hr H
theorem yl_18 {post : SY → Prop} {a c y : Nat} {T : Int64} {R I FF GG : Nat → Prop} (ha : a < 2048) (hc : c < 24) (hy : y < 32) (hya : 64 * y + 64 ≤ a) (hT : ∀ t, t < 64 → hd (64 * c + t) = lb_i (lb_b T t)) (hF : ∀ t, t < 64 → F (64 * y + t) = lb_i (FF t)) (hG : ∀ t, t < 64 → G (64 * y + t) = lb_i (GG t)) (hb : ∀ t, t < 64 → b t = lb_i (R t)) (hr : ∀ t, t < 64 → r t = lb_i (R t ∧ I t)) (H : ∀ e, (∀ j, j < 64 → (lb_b e j ↔ (R j ∧ ¬ lb_b T j))) → post (fc, fp, fg, hd, W, vp_updL E a e, upd F a (lb_i (∃ t, t < 64 ∧ (R t ∧ lb_b T t) ∧ FF t)), upd G a (lb_i (∃ t, t < 64 ∧ (R t ∧ lb_b T t) ∧ (GG t ∨ I t))), b, r)) : ∀ d i e, i + d = 64 → lb_acc (fun t => R t ∧ ¬ lb_b T t) i e → wY_loop_18 post (nI a) (nI c) (nI y) fc fp fg (d + 1) (nI i) hd W (vp_updL E a e) (upd F a (lb_i (∃ t, t < i ∧ (R t ∧ lb_b T t) ∧ FF t))) (upd G a (lb_i (∃ t, t < i ∧ (R t ∧ lb_b T t) ∧ (GG t ∨ I t)))) b r := by
  have va : vp_in (nI a) 2048 := lb_vi ha (by decide)
  have ea : (nI a).toNatClampNeg = a := lb_cl ha
  intro d
  induction d with
  | zero =>
    intro i e hi h
    have e64 : i = 64 := by omega
    subst e64
    exact br_t lb_64x (H e (lb_accX h))
  | succ d ih =>
    intro i e hi h
    have hl : i < 64 := by omega
    have vi : vp_in (nI i) 64 := lb_vi hl (by decide)
    have ei : (nI i).toNatClampNeg = i := lb_cl (by omega)
    have ec : ((64 * nI c) + nI i).toNatClampNeg = 64 * c + i := lb_at2 (by omega) hl
    have k : ∀ e', lb_acc (fun t => R t ∧ ¬ lb_b T t) (i + 1) e' → wY_loop_67 post (wY_loop_18 post (nI a) (nI c) (nI y) fc fp fg (d + 1)) (nI a) (nI c) (nI y) (nI i) fc fp fg hd W (vp_updL E a e') (upd F a (lb_i (∃ t, t < i ∧ (R t ∧ lb_b T t) ∧ FF t))) (upd G a (lb_i (∃ t, t < i ∧ (R t ∧ lb_b T t) ∧ (GG t ∨ I t)))) b r := fun e' h' =>
      yl_67 fc fp fg hd W (vp_updL E a e') F G b r ha hc hy hl hya (hT i hl) (hF i hl) (hG i hl) (hb i hl) (hr i hl) (lb_exS (P := fun t => (R t ∧ lb_b T t) ∧ FF t)) (lb_exS (P := fun t => (R t ∧ lb_b T t) ∧ (GG t ∨ I t))) (ih (i + 1) e' (by omega) h')
    refine br_f (lb_64 hl) (And.intro vi (br_c (fun z => k e ?_) (fun z => And.intro (lb_in2 hc hl rfl (by decide)) (br_c (fun x => And.intro va (And.intro va (nm_r (e' := vp_updL E a (e ||| ((1 : Int64) <<< ((nI i).toInt64 &&& 63)))) (by rw [ea, pk_uLs, lb_uuL]) (k _ ?_)))) (fun x => k e ?_)))))
    · rw [ei, hb i hl] at z
      exact lb_accF h (fun c => lb_iz.mp z c.1)
    · rw [ei, hb i hl] at z
      rw [ec, hT i hl] at x
      exact lb_accT hl h ⟨lb_in.mp z, lb_iz.mp x⟩
    · rw [ec, hT i hl] at x
      exact lb_accF h (fun c => c.2 (lb_in.mp x))
theorem yl_loop {post : SY → Prop} {a c y s : Nat} {T f g : Int64} {z1 z2 : Int32} (ha : a < 2048) (hc : c < 24) (hy : y < 32) (hs : s < 64) (hya : 64 * y + 64 ≤ a) (hT : ∀ t, t < 64 → hd (64 * c + t) = lb_i (lb_b T t)) (hF : ∀ t, t < 64 → F (64 * y + t) = lb_i (lb_b f t)) (hG : ∀ t, t < 64 → G (64 * y + t) = lb_i (lb_b g t)) (h1 : z1 = lb_i False) (h2 : z2 = lb_i False) (H : ∀ b' r' g', post (fc, fp, g', hd, W, vp_updL E a (sp_WE E T y s), upd F a (lb_i (sp_WF E T f y s)), upd G a (lb_i (sp_WG E T g y s)), b', r')) : wpY_loop post (fc, fp, fg, hd, W, vp_updL E a 0, upd F a z1, upd G a z2, b, r) (nI a) (nI s) (nI c) (nI y) := by
  subst h1 h2
  have ec : sp_e (vp_updL E a 0) T y = sp_e E T y := sp_ec (fun t ht => pk_uLn (by omega))
  have k0 : ∀ X : Nat → Prop, False ↔ ∃ t, t < 0 ∧ X t := fun X => ⟨False.elim, fun z => by obtain ⟨t, ht, _⟩ := z; omega⟩
  unfold wpY_loop
  refine ys_spread fc fp hd W (vp_updL E a 0) _ _ b r hc hy hs hT (fun b' g1 hb => ?_)
  refine yn_find fc fp hd W (vp_updL E a 0) _ _ b' r hc hy hs hT hb (fun r' g2 hr => ?_)
  rw [ec] at hb hr
  have k := yl_18 fc fp g2 hd W E F G b' r' (T := T) (R := gr_R (sp_e E T y) s) (I := gr_inf (sp_e E T y)) (FF := lb_b f) (GG := lb_b g) (post := post) ha hc hy hya hT hF hG hb hr (fun e he => by
    have e1 : e = sp_WE E T y s := lb_Se he
    have e2 : (∃ t, t < 64 ∧ (gr_R (sp_e E T y) s t ∧ lb_b T t) ∧ lb_b f t) ↔ sp_WF E T f y s := ⟨fun z => by obtain ⟨t, _, z1, z2⟩ := z; exact ⟨t, z1.1, z1.2, z2⟩, fun z => by obtain ⟨t, z1, z2, z3⟩ := z; exact ⟨t, lb_lt z2, ⟨z1, z2⟩, z3⟩⟩
    have e3 : (∃ t, t < 64 ∧ (gr_R (sp_e E T y) s t ∧ lb_b T t) ∧ (lb_b g t ∨ gr_inf (sp_e E T y) t)) ↔ sp_WG E T g y s := ⟨fun z => by obtain ⟨t, _, z1, z2⟩ := z; exact ⟨t, z1.1, z1.2, z2⟩, fun z => by obtain ⟨t, z1, z2, z3⟩ := z; exact ⟨t, lb_lt z2, ⟨z1, z2⟩, z3⟩⟩
    rw [e1, lb_ic e2, lb_ic e3]
    exact H b' r' g2) 64 0 0 rfl (lb_acc0 _)
  rw [← lb_ic (k0 _), ← lb_ic (k0 _)] at k
  exact ⟨65, k⟩
/-! ===== simple ===== -/
theorem yi_0 {post : SY → Prop} {a s : Nat} {x y z : Int32} (ha : a < 2048) (H : post (fc, fp, fg, hd, W, vp_updL E a ((1 : Int64) <<< ((nI s).toInt64 &&& 63)), F, G, b, r)) : wpY_simple post (fc, fp, fg, hd, W, vp_updL E a 0, F, G, b, r) (nI a) (nI s) 0 x y z :=
  br_t rfl (br_f (by decide) (And.intro (lb_vi ha (by decide)) (nm_r (by rw [lb_cl ha, lb_uuL]) (br_f (by decide) (br_f (by decide) (br_f (by decide) (br_f (by decide) H)))))))
theorem yi_1 {post : SY → Prop} {a s : Nat} {x y z z1 : Int32} (ha : a < 2048) (H : post (fc, fp, fg, hd, W, E, upd F a 1, G, b, r)) : wpY_simple post (fc, fp, fg, hd, W, E, upd F a z1, G, b, r) (nI a) (nI s) 1 x y z :=
  br_f (by decide) (br_f (by decide) (br_f (by decide) (br_t rfl (br_t rfl (And.intro (lb_vi ha (by decide)) (nm_r (e' := upd F a 1) (by rw [lb_cl ha, lb_uu, lb_v1]) (br_f (by decide) (br_f (by decide) H))))))))
theorem yi_2 {post : SY → Prop} {a s : Nat} {x y z : Int32} (ha : a < 2048) (H : post (fc, fp, fg, hd, W, vp_updL E a (xo_set x y z s), F, G, b, r)) : wpY_simple post (fc, fp, fg, hd, W, vp_updL E a 0, F, G, b, r) (nI a) (nI s) 2 x y z := by
  refine br_f (by decide) (br_f (by decide) (br_f (by decide) (br_t rfl (br_f (by decide) (br_f (by decide) (br_t rfl (br_c (fun e => nm_e (And.intro (lb_vi ha (by decide)) (nm_r (e' := vp_updL E a (xo_set x y z s)) ?_ (br_f (by decide) H)))) (fun e => nm_e (And.intro (lb_vi ha (by decide)) (nm_r (e' := vp_updL E a (xo_set x y z s)) ?_ (br_f (by decide) H)))))))))))
  · rw [lb_cl ha, lb_uuL]
    unfold xo_set
    rw [if_pos e]
    rfl
  · rw [lb_cl ha, lb_uuL]
    unfold xo_set
    rw [if_neg e]
    rfl
theorem yi_135 {post : SY → Prop} {a s : Nat} {x : Int32} (ha : a < 2048) (H : post (fc, fp, fg, hd, W, vp_updL E a (xo_any x s 4), F, G, b, r)) : ∀ d v, v + d = 4 → wY_simple_135 post (nI a) (nI s) x fc fp fg (d + 1) (nI v) hd W (vp_updL E a (xo_any x s v)) F G b r := by
  intro d
  induction d with
  | zero =>
    intro v hv
    have e : v = 4 := by omega
    subst e
    exact br_t lb_4x H
  | succ d ih =>
    intro v hv
    refine br_f (lb_4 (by omega)) (And.intro (lb_vi ha (by decide)) (And.intro (lb_vi ha (by decide)) (nm_r (e' := vp_updL E a (xo_any x s (v + 1))) ?_ (nm_r (nI_1 v) (ih (v + 1) (by omega))))))
    rw [lb_cl ha, pk_uLs, lb_uuL]
    rfl
theorem yi_3 {post : SY → Prop} {a s : Nat} {x y z : Int32} (ha : a < 2048) (H : post (fc, fp, fg, hd, W, vp_updL E a (xo_any x s 4), F, G, b, r)) : wpY_simple post (fc, fp, fg, hd, W, vp_updL E a 0, F, G, b, r) (nI a) (nI s) 3 x y z :=
  br_f (by decide) (br_f (by decide) (br_f (by decide) (br_t rfl (br_f (by decide) (br_f (by decide) (br_f (by decide) (br_t rfl ⟨5, yi_135 fc fp fg hd W E F G b r ha H 4 0 rfl⟩)))))))
theorem lb_stT {T : Int64} {s : Nat} (hs : s < 64) (h : lb_b T s) : T &&& ((1 : Int64) <<< ((nI s).toInt64 &&& 63)) = (1 : Int64) <<< ((nI s).toInt64 &&& 63) := by
  apply lb_ext
  intro j _
  rw [lb_and, lb_shl hs]
  exact ⟨fun z => z.2, fun z => by subst z; exact ⟨h, rfl⟩⟩
theorem lb_stF {T : Int64} {s : Nat} (hs : s < 64) (h : ¬ lb_b T s) : T &&& ((1 : Int64) <<< ((nI s).toInt64 &&& 63)) = 0 := by
  apply lb_ext
  intro j _
  rw [lb_and, lb_shl hs]
  exact ⟨fun z => by obtain ⟨z1, z2⟩ := z; subst z2; exact absurd z1 h, fun z => absurd z (lb_0 j)⟩
theorem yi_4 {post : SY → Prop} {a s c : Nat} {y z : Int32} {T : Int64} (ha : a < 2048) (hs : s < 64) (hc : c < 24) (hT : hd (64 * c + s) = lb_i (lb_b T s)) (H : post (fc, fp, fg, hd, W, vp_updL E a (T &&& ((1 : Int64) <<< ((nI s).toInt64 &&& 63))), F, G, b, r)) : wpY_simple post (fc, fp, fg, hd, W, vp_updL E a 0, F, G, b, r) (nI a) (nI s) 4 (nI c) y z := by
  refine br_f (by decide) (br_t rfl (And.intro (lb_in2 hc hs rfl (by decide)) (br_c (fun e => ?_) (fun e => ?_))))
  · rw [lb_at2 (by omega) hs, hT] at e
    rw [lb_stF hs (lb_iz.mp e)] at H
    exact br_t rfl (br_f (by decide) (br_f (by decide) (br_f (by decide) (br_f (by decide) H))))
  · rw [lb_at2 (by omega) hs, hT] at e
    rw [lb_stT hs (lb_in.mp e)] at H
    exact br_f (by decide) (And.intro (lb_vi ha (by decide)) (nm_r (by rw [lb_cl ha, lb_uuL]) (br_f (by decide) (br_f (by decide) (br_f (by decide) (br_f (by decide) H))))))
theorem yi_5 {post : SY → Prop} {a s c : Nat} {y z z1 : Int32} {T : Int64} (ha : a < 2048) (hs : s < 64) (hc : c < 24) (hT : hd (64 * c + s) = lb_i (lb_b T s)) (hz : z1 = lb_i False) (H : post (fc, fp, fg, hd, W, vp_updL E a (T &&& ((1 : Int64) <<< ((nI s).toInt64 &&& 63))), upd F a (lb_i (¬ lb_b T s)), G, b, r)) : wpY_simple post (fc, fp, fg, hd, W, vp_updL E a 0, upd F a z1, G, b, r) (nI a) (nI s) 5 (nI c) y z := by
  subst hz
  refine br_f (by decide) (br_f (by decide) (br_t rfl (And.intro (lb_in2 hc hs rfl (by decide)) (br_c (fun e => ?_) (fun e => ?_)))))
  · rw [lb_at2 (by omega) hs, hT] at e
    rw [lb_stF hs (lb_iz.mp e), lb_i1 (lb_iz.mp e)] at H
    exact br_t rfl (br_f (by decide) (br_t rfl (br_t rfl (And.intro (lb_vi ha (by decide)) (nm_r (e' := upd F a 1) (by rw [lb_cl ha, lb_uu, lb_v1]) (br_f (by decide) (br_f (by decide) H)))))))
  · rw [lb_at2 (by omega) hs, hT] at e
    rw [lb_stT hs (lb_in.mp e), lb_ic (show (¬ lb_b T s) ↔ False from ⟨fun z => z (lb_in.mp e), False.elim⟩)] at H
    exact br_f (by decide) (And.intro (lb_vi ha (by decide)) (nm_r (by rw [lb_cl ha, lb_uuL]) (br_f (by decide) (br_t rfl (br_f (by decide) (br_f (by decide) (br_f (by decide) H)))))))
end
end
section
def yp_B (post : Int32 → SY → Prop) (k x y z : Int32) (p : Nat) (fc : Int32) (hd W : Nat → Int32) (E : Nat → Int64) (F G : Nat → Int32) (EV : Nat → Int64) (FV GV : Nat → Prop) : Prop :=
  ∀ (n i : Nat) (E' : Nat → Int64) (F' G' b r : Nat → Int32) (g : Int32), i < 64 → (∀ j, j < 64 * p → E' j = E j) → (∀ j, j < 64 * p → F' j = F j) → (∀ j, j < 64 * p → G' j = G j) → (∀ (b' r' : Nat → Int32) (g' : Int32), wY_program_122 post k x y z n (nI (i + 1)) fc (nI p) g' hd W (vp_updL E' (64 * p + i) (EV i)) (upd F' (64 * p + i) (lb_i (FV i))) (upd G' (64 * p + i) (lb_i (GV i))) b' r') → wY_program_122 post k x y z (n + 1) (nI i) fc (nI p) g hd W E' F' G' b r
section
variable (fc : Int32) (hd W : Nat → Int32) (E : Nat → Int64) (F G : Nat → Int32)
theorem yp_122 {post : Int32 → SY → Prop} {k x y z : Int32} {p : Nat} {EV : Nat → Int64} {FV GV : Nat → Prop} (B : yp_B post k x y z p fc hd W E F G EV FV GV) (H : ∀ b r g, post (nI p) (fc, nI (p + 1), g, hd, W, lb_fl E (64 * p) 64 EV, lb_fi F (64 * p) 64 (fun s => lb_i (FV s)), lb_fi G (64 * p) 64 (fun s => lb_i (GV s)), b, r)) : ∀ d i b r g, i + d = 64 → wY_program_122 post k x y z (d + 1) (nI i) fc (nI p) g hd W (lb_fl E (64 * p) i EV) (lb_fi F (64 * p) i (fun s => lb_i (FV s))) (lb_fi G (64 * p) i (fun s => lb_i (GV s))) b r := by
  intro d
  induction d with
  | zero =>
    intro i b r g hi
    have e : i = 64 := by omega
    subst e
    refine br_t lb_64x (nm_r (nI_1 p) ?_)
    rw [nI_pred]
    exact H b r g
  | succ d ih =>
    intro i b r g hi
    have hl : i < 64 := by omega
    refine B (d + 1) i _ _ _ b r g hl (fun j hj => lb_flN (Or.inl hj)) (fun j hj => lb_fiN (Or.inl hj)) (fun j hj => lb_fiN (Or.inl hj)) (fun b' r' g' => ?_)
    rw [lb_flS E (64 * p) i EV, lb_fiS F (64 * p) i (fun s => lb_i (FV s)), lb_fiS G (64 * p) i (fun s => lb_i (GV s))]
    exact ih (i + 1) b' r' g' (by omega)
theorem yp_98 {post : Int32 → SY → Prop} {k x y z w : Int32} {p : Nat} {EV : Nat → Int64} {FV GV : Nat → Prop} {b r : Nat → Int32} {g : Int32} (hp : p < 32) (hw : w ≤ 20) (B : yp_B post k x y z p fc hd (upd W p w) E F G EV FV GV) (H : ∀ b r g, post (nI p) (fc, nI (p + 1), g, hd, upd W p w, lb_fl E (64 * p) 64 EV, lb_fi F (64 * p) 64 (fun s => lb_i (FV s)), lb_fi G (64 * p) 64 (fun s => lb_i (GV s)), b, r)) : wY_program_98 post k x y z w fc (nI p) g hd W E F G b r := by
  have h := yp_122 fc hd (upd W p w) E F G B H 64 0 b r g rfl
  rw [lb_fl0, lb_fi0, lb_fi0] at h
  exact br_t hw (And.intro (lb_vi hp (by decide)) (nm_r (lb_ui (by omega)) ⟨65, h⟩))
theorem yp_pre6 {post : Int32 → SY → Prop} {k x y z g : Int32} {p i n : Nat} {b r : Nat → Int32} (hp : p < 32) (hi : i < 64) (hk : 6 ≤ k) (H : wY_program_184 post (wY_program_122 post k x y z n) k x y z (nI i) (nI (64 * p + i)) fc (nI p) g hd W (vp_updL E (64 * p + i) 0) (upd F (64 * p + i) (lb_i False)) (upd G (64 * p + i) (lb_i False)) b r) : wY_program_122 post k x y z (n + 1) (nI i) fc (nI p) g hd W E F G b r := by
  have va : vp_in (nI (64 * p + i)) 2048 := lb_vi (by omega) (by decide)
  have ea : (nI (64 * p + i)).toNatClampNeg = 64 * p + i := lb_cl (by omega)
  exact br_f (lb_64 hi) (nm_r (lb_ix2 p i) (And.intro va (nm_r (e' := vp_updL E (64 * p + i) 0) (by rw [ea]) (And.intro va (nm_r (e' := upd F (64 * p + i) (lb_i False)) (by rw [ea, lb_v0, lb_i0 id]) (And.intro va (nm_r (e' := upd G (64 * p + i) (lb_i False)) (by rw [ea, lb_v0, lb_i0 id]) (br_t hk H))))))))
theorem yp_pre0 {post : Int32 → SY → Prop} {k x y z g : Int32} {p i n : Nat} {b r : Nat → Int32} (hp : p < 32) (hi : i < 64) (hk : ¬ 6 ≤ k) (H : ∀ post' : SY → Prop, (∀ c1 c2 c3 d1 d2 d3 d4 d5 d6 d7, wY_program_184 post (wY_program_122 post k x y z n) k x y z (nI i) (nI (64 * p + i)) c1 c2 c3 d1 d2 d3 d4 d5 d6 d7 → post' (c1, c2, c3, d1, d2, d3, d4, d5, d6, d7)) → wpY_simple post' (fc, nI p, g, hd, W, vp_updL E (64 * p + i) 0, upd F (64 * p + i) (lb_i False), upd G (64 * p + i) (lb_i False), b, r) (nI (64 * p + i)) (nI i) k x y z) : wY_program_122 post k x y z (n + 1) (nI i) fc (nI p) g hd W E F G b r := by
  have va : vp_in (nI (64 * p + i)) 2048 := lb_vi (by omega) (by decide)
  have ea : (nI (64 * p + i)).toNatClampNeg = 64 * p + i := lb_cl (by omega)
  exact br_f (lb_64 hi) (nm_r (lb_ix2 p i) (And.intro va (nm_r (e' := vp_updL E (64 * p + i) 0) (by rw [ea]) (And.intro va (nm_r (e' := upd F (64 * p + i) (lb_i False)) (by rw [ea, lb_v0, lb_i0 id]) (And.intro va (nm_r (e' := upd G (64 * p + i) (lb_i False)) (by rw [ea, lb_v0, lb_i0 id]) (br_f hk (H _ (fun _ _ _ _ _ _ _ _ _ _ h => h))))))))))
end
section
variable (c1 c2 c3 : Int32) (d1 d2 : Nat → Int32) (d3 : Nat → Int64) (d4 d5 d6 d7 : Nat → Int32)
theorem yp_c9 {post : Int32 → SY → Prop} {J : Int32 → Int32 → Int32 → Int32 → (Nat → Int32) → (Nat → Int32) → (Nat → Int64) → (Nat → Int32) → (Nat → Int32) → (Nat → Int32) → (Nat → Int32) → Prop} {k x y z a : Int32} {i : Nat} (h9 : ¬ k = 9) (H : J (nI (i + 1)) c1 c2 c3 d1 d2 d3 d4 d5 d6 d7) : wY_program_275 post J k x y z (nI i) a c1 c2 c3 d1 d2 d3 d4 d5 d6 d7 := br_f h9 (nm_r (nI_1 i) H)
theorem yp_c8 {post : Int32 → SY → Prop} {J : Int32 → Int32 → Int32 → Int32 → (Nat → Int32) → (Nat → Int32) → (Nat → Int64) → (Nat → Int32) → (Nat → Int32) → (Nat → Int32) → (Nat → Int32) → Prop} {k x y z a : Int32} {i : Nat} (h8 : ¬ k = 8) (h9 : ¬ k = 9) (H : J (nI (i + 1)) c1 c2 c3 d1 d2 d3 d4 d5 d6 d7) : wY_program_243 post J k x y z (nI i) a c1 c2 c3 d1 d2 d3 d4 d5 d6 d7 := br_f h8 (br_f h9 (nm_r (nI_1 i) H))
theorem yp_c7 {post : Int32 → SY → Prop} {J : Int32 → Int32 → Int32 → Int32 → (Nat → Int32) → (Nat → Int32) → (Nat → Int64) → (Nat → Int32) → (Nat → Int32) → (Nat → Int32) → (Nat → Int32) → Prop} {k x y z a : Int32} {i : Nat} (h7 : ¬ k = 7) (h8 : ¬ k = 8) (h9 : ¬ k = 9) (H : J (nI (i + 1)) c1 c2 c3 d1 d2 d3 d4 d5 d6 d7) : wY_program_204 post J k x y z (nI i) a c1 c2 c3 d1 d2 d3 d4 d5 d6 d7 := br_f h7 (br_f h8 (br_f h9 (nm_r (nI_1 i) H)))
theorem yp_c6 {post : Int32 → SY → Prop} {J : Int32 → Int32 → Int32 → Int32 → (Nat → Int32) → (Nat → Int32) → (Nat → Int64) → (Nat → Int32) → (Nat → Int32) → (Nat → Int32) → (Nat → Int32) → Prop} {k x y z a : Int32} {i : Nat} (h6 : ¬ k = 6) (h7 : ¬ k = 7) (h8 : ¬ k = 8) (h9 : ¬ k = 9) (H : J (nI (i + 1)) c1 c2 c3 d1 d2 d3 d4 d5 d6 d7) : wY_program_184 post J k x y z (nI i) a c1 c2 c3 d1 d2 d3 d4 d5 d6 d7 := br_f h6 (br_f h7 (br_f h8 (br_f h9 (nm_r (nI_1 i) H))))
end
section
variable (fc : Int32) (hd W : Nat → Int32) (E : Nat → Int64) (F G : Nat → Int32)
theorem yp_0 {post : Int32 → SY → Prop} {x y z : Int32} {p : Nat} (hp : p < 32) : yp_B post 0 x y z p fc hd W E F G (fun s => (1 : Int64) <<< ((nI s).toInt64 &&& 63)) (fun _ => False) (fun _ => False) := by
  intro n i E' F' G' b r g hi _ _ _ H
  exact yp_pre0 fc hd W E' F' G' hp hi (by decide) (fun post' hq => yi_0 fc (nI p) g hd W E' _ _ b r (by omega) (hq _ _ _ _ _ _ _ _ _ _ (yp_c6 _ _ _ _ _ _ _ _ _ _ (by decide) (by decide) (by decide) (by decide) (H b r g))))
theorem yp_1 {post : Int32 → SY → Prop} {x y z : Int32} {p : Nat} (hp : p < 32) : yp_B post 1 x y z p fc hd W E F G (fun _ => 0) (fun _ => True) (fun _ => False) := by
  intro n i E' F' G' b r g hi _ _ _ H
  rw [lb_i1 True.intro] at H
  exact yp_pre0 fc hd W E' F' G' hp hi (by decide) (fun post' hq => yi_1 fc (nI p) g hd W _ F' _ b r (by omega) (hq _ _ _ _ _ _ _ _ _ _ (yp_c6 _ _ _ _ _ _ _ _ _ _ (by decide) (by decide) (by decide) (by decide) (H b r g))))
theorem yp_2 {post : Int32 → SY → Prop} {x y z : Int32} {p : Nat} (hp : p < 32) : yp_B post 2 x y z p fc hd W E F G (xo_set x y z) (fun _ => False) (fun _ => False) := by
  intro n i E' F' G' b r g hi _ _ _ H
  exact yp_pre0 fc hd W E' F' G' hp hi (by decide) (fun post' hq => yi_2 fc (nI p) g hd W E' _ _ b r (by omega) (hq _ _ _ _ _ _ _ _ _ _ (yp_c6 _ _ _ _ _ _ _ _ _ _ (by decide) (by decide) (by decide) (by decide) (H b r g))))
theorem yp_3 {post : Int32 → SY → Prop} {x y z : Int32} {p : Nat} (hp : p < 32) : yp_B post 3 x y z p fc hd W E F G (fun s => xo_any x s 4) (fun _ => False) (fun _ => False) := by
  intro n i E' F' G' b r g hi _ _ _ H
  exact yp_pre0 fc hd W E' F' G' hp hi (by decide) (fun post' hq => yi_3 fc (nI p) g hd W E' _ _ b r (by omega) (hq _ _ _ _ _ _ _ _ _ _ (yp_c6 _ _ _ _ _ _ _ _ _ _ (by decide) (by decide) (by decide) (by decide) (H b r g))))
theorem yp_4 {post : Int32 → SY → Prop} {y z : Int32} {p c : Nat} {T : Int64} (hp : p < 32) (hc : c < 24) (hT : ∀ t, t < 64 → hd (64 * c + t) = lb_i (lb_b T t)) : yp_B post 4 (nI c) y z p fc hd W E F G (fun s => T &&& ((1 : Int64) <<< ((nI s).toInt64 &&& 63))) (fun _ => False) (fun _ => False) := by
  intro n i E' F' G' b r g hi _ _ _ H
  exact yp_pre0 fc hd W E' F' G' hp hi (by decide) (fun post' hq => yi_4 fc (nI p) g hd W E' _ _ b r (by omega) hi hc (hT i hi) (hq _ _ _ _ _ _ _ _ _ _ (yp_c6 _ _ _ _ _ _ _ _ _ _ (by decide) (by decide) (by decide) (by decide) (H b r g))))
theorem yp_5 {post : Int32 → SY → Prop} {y z : Int32} {p c : Nat} {T : Int64} (hp : p < 32) (hc : c < 24) (hT : ∀ t, t < 64 → hd (64 * c + t) = lb_i (lb_b T t)) : yp_B post 5 (nI c) y z p fc hd W E F G (fun s => T &&& ((1 : Int64) <<< ((nI s).toInt64 &&& 63))) (fun s => ¬ lb_b T s) (fun _ => False) := by
  intro n i E' F' G' b r g hi _ _ _ H
  exact yp_pre0 fc hd W E' F' G' hp hi (by decide) (fun post' hq => yi_5 fc (nI p) g hd W E' F' _ b r (by omega) hi hc (hT i hi) rfl (hq _ _ _ _ _ _ _ _ _ _ (yp_c6 _ _ _ _ _ _ _ _ _ _ (by decide) (by decide) (by decide) (by decide) (H b r g))))
theorem yp_6 {post : Int32 → SY → Prop} {z : Int32} {p x y : Nat} {fs gs : Nat → Int64} (hp : p < 32) (hx : x < p) (hy : y < p) (RF : ∀ i s, i < 32 → s < 64 → F (64 * i + s) = lb_i (lb_b (fs i) s)) (RG : ∀ i s, i < 32 → s < 64 → G (64 * i + s) = lb_i (lb_b (gs i) s)) : yp_B post 6 (nI x) (nI y) z p fc hd W E F G (xo_then E x y) (fun s => xo_thenF E fs x y s) (fun s => xo_thenF E gs x y s) := by
  intro n i E' F' G' b r g hi hE hF hG H
  refine yp_pre6 fc hd W E' F' G' hp hi (by decide) (br_t rfl ?_)
  rw [lb_ix2]
  refine yf_follow fc (nI p) g hd W E' F' G' b r (P0 := lb_b (fs x) i) (Q0 := lb_b (gs x) i) (FF := lb_b (fs y)) (GG := lb_b (gs y)) (by omega) (by omega) (by omega) (by omega) (by rw [hF _ (by omega), RF x i (by omega) hi]) (by rw [hG _ (by omega), RG x i (by omega) hi]) (fun t ht => by rw [hF _ (by omega), RF y t (by omega) ht]) (fun t ht => by rw [hG _ (by omega), RG y t (by omega) ht]) (fun e he => yp_c7 _ _ _ _ _ _ _ _ _ _ (by decide) (by decide) (by decide) ?_)
  have e1 : e = xo_then E x y i := by
    apply lb_Se
    intro j hj
    rw [he j hj, hE _ (by omega)]
    constructor
    · intro z
      obtain ⟨t, ht, z1, z2⟩ := z
      rw [hE _ (by omega)] at z2
      exact ⟨t, ht, z1, z2⟩
    · intro z
      obtain ⟨t, ht, z1, z2⟩ := z
      refine ⟨t, ht, z1, ?_⟩
      rw [hE _ (by omega)]
      exact z2
  rw [e1, hE _ (by omega)]
  exact H b r g
theorem yp_t0 {P Q : Prop} (h : P ↔ Q) : (False ∨ P) ↔ Q := ⟨fun z => z.elim False.elim h.mp, fun z => Or.inr (h.mpr z)⟩
theorem yp_7 {post : Int32 → SY → Prop} {p c y z : Nat} {T : Int64} {fs gs : Nat → Int64} (hp : p < 32) (hc : c < 24) (hy : y < p) (hz : z < p) (hT : ∀ t, t < 64 → hd (64 * c + t) = lb_i (lb_b T t)) (RF : ∀ i s, i < 32 → s < 64 → F (64 * i + s) = lb_i (lb_b (fs i) s)) (RG : ∀ i s, i < 32 → s < 64 → G (64 * i + s) = lb_i (lb_b (gs i) s)) : yp_B post 7 (nI c) (nI y) (nI z) p fc hd W E F G (fun s => E (64 * xo_pick T y z s + s)) (fun s => lb_b (fs (xo_pick T y z s)) s) (fun s => lb_b (gs (xo_pick T y z s)) s) := by
  intro n i E' F' G' b r g hi hE hF hG H
  have k : ∀ q, q < p → xo_pick T y z i = q → wY_program_236 post (wY_program_122 post 7 (nI c) (nI y) (nI z) n) 7 (nI c) (nI y) (nI z) (nI i) (nI (64 * p + i)) (nI q) 64 (nI (64 * p + i)) fc (nI p) g hd W (vp_updL E' (64 * p + i) 0) (upd F' (64 * p + i) (lb_i False)) (upd G' (64 * p + i) (lb_i False)) b r := by
    intro q hq eq
    unfold wY_program_236
    rw [lb_ix2]
    refine yt_take fc (nI p) g hd W E' F' G' b r (P' := lb_b (fs q) i) (Q' := lb_b (gs q) i) (by omega) (by omega) (by omega) (by rw [hF _ (by omega), RF q i (by omega) hi]) (by rw [hG _ (by omega), RG q i (by omega) hi]) (yp_c8 _ _ _ _ _ _ _ _ _ _ (by decide) (by decide) ?_)
    have h := H b r g
    dsimp only at h
    rw [eq] at h
    rw [lb_or0, hE _ (by omega), lb_ic (yp_t0 (Iff.refl (lb_b (fs q) i))), lb_ic (yp_t0 (Iff.refl (lb_b (gs q) i)))]
    exact h
  refine yp_pre6 fc hd W E' F' G' hp hi (by decide) (br_f (by decide) (br_t rfl (And.intro (lb_in2 hc hi rfl (by decide)) (br_c (fun e => k z hz ?_) (fun e => k y hy ?_)))))
  · rw [lb_at2 (by omega) hi, hT i hi] at e
    exact if_neg (lb_iz.mp e)
  · rw [lb_at2 (by omega) hi, hT i hi] at e
    exact if_pos (lb_in.mp e)
theorem yp_8 {post : Int32 → SY → Prop} {z : Int32} {p x y : Nat} {fs gs : Nat → Int64} (hp : p < 32) (hx : x < p) (hy : y < p) (RF : ∀ i s, i < 32 → s < 64 → F (64 * i + s) = lb_i (lb_b (fs i) s)) (RG : ∀ i s, i < 32 → s < 64 → G (64 * i + s) = lb_i (lb_b (gs i) s)) : yp_B post 8 (nI x) (nI y) z p fc hd W E F G (fun s => E (64 * x + s) ||| E (64 * y + s)) (fun s => lb_b (fs x) s ∨ lb_b (fs y) s) (fun s => lb_b (gs x) s ∨ lb_b (gs y) s) := by
  intro n i E' F' G' b r g hi hE hF hG H
  refine yp_pre6 fc hd W E' F' G' hp hi (by decide) (br_f (by decide) (br_f (by decide) (br_t rfl ?_)))
  rw [lb_ix2, lb_ix2]
  refine yt_take fc (nI p) g hd W E' F' G' b r (P' := lb_b (fs x) i) (Q' := lb_b (gs x) i) (by omega) (by omega) (by omega) (by rw [hF _ (by omega), RF x i (by omega) hi]) (by rw [hG _ (by omega), RG x i (by omega) hi]) ?_
  refine yt_take fc (nI p) g hd W E' F' G' b r (P' := lb_b (fs y) i) (Q' := lb_b (gs y) i) (by omega) (by omega) (by omega) (by rw [hF _ (by omega), RF y i (by omega) hi]) (by rw [hG _ (by omega), RG y i (by omega) hi]) (yp_c9 _ _ _ _ _ _ _ _ _ _ (by decide) ?_)
  rw [lb_or0, hE _ (by omega), hE _ (by omega), propext (yp_t0 (Iff.refl (lb_b (fs x) i))), propext (yp_t0 (Iff.refl (lb_b (gs x) i)))]
  exact H b r g
theorem yp_9 {post : Int32 → SY → Prop} {z : Int32} {p c y : Nat} {T : Int64} {fs gs : Nat → Int64} (hp : p < 32) (hc : c < 24) (hy : y < p) (hT : ∀ t, t < 64 → hd (64 * c + t) = lb_i (lb_b T t)) (RF : ∀ i s, i < 32 → s < 64 → F (64 * i + s) = lb_i (lb_b (fs i) s)) (RG : ∀ i s, i < 32 → s < 64 → G (64 * i + s) = lb_i (lb_b (gs i) s)) : yp_B post 9 (nI c) (nI y) z p fc hd W E F G (sp_WE E T y) (fun s => sp_WF E T (fs y) y s) (fun s => sp_WG E T (gs y) y s) := by
  intro n i E' F' G' b r g hi hE hF hG H
  have ec : sp_e E' T y = sp_e E T y := sp_ec (fun t ht => hE _ (by omega))
  have a1 : sp_WE E' T y i = sp_WE E T y i := by unfold sp_WE; rw [ec]
  have a2 : sp_WF E' T (fs y) y i = sp_WF E T (fs y) y i := by unfold sp_WF; rw [ec]
  have a3 : sp_WG E' T (gs y) y i = sp_WG E T (gs y) y i := by unfold sp_WG; rw [ec]
  refine yp_pre6 fc hd W E' F' G' hp hi (by decide) (br_f (by decide) (br_f (by decide) (br_f (by decide) (br_t rfl ?_))))
  refine yl_loop fc (nI p) g hd W E' F' G' b r (T := T) (f := fs y) (g := gs y) (by omega) hc (by omega) hi (by omega) hT (fun t ht => by rw [hF _ (by omega), RF y t (by omega) ht]) (fun t ht => by rw [hG _ (by omega), RG y t (by omega) ht]) rfl rfl (fun b' r' g' => nm_r (nI_1 i) ?_)
  rw [a1, a2, a3]
  exact H b' r' g'
end
end
section
theorem lb_brE {v : Int32} {P A B : Prop} (e : v = lb_i P) (f : ¬ P → A) (g : P → B) : (v = 0 → A) ∧ (¬ v = 0 → B) := by
  subst e
  exact lb_br f g
theorem lb_n3 {A B C : Prop} : (¬ ((A ∨ B) ∨ ¬ C)) ↔ (¬ A ∧ ¬ B ∧ C) :=
  ⟨fun h => ⟨fun a => h (Or.inl (Or.inl a)), fun b => h (Or.inl (Or.inr b)), Classical.byContradiction (fun c => h (Or.inr c))⟩, fun h z => z.elim (fun z => z.elim h.1 h.2.1) (fun z => z h.2.2)⟩
theorem lb_n2 {A C : Prop} : (¬ (A ∨ ¬ C)) ↔ (¬ A ∧ C) :=
  ⟨fun h => ⟨fun a => h (Or.inl a), Classical.byContradiction (fun c => h (Or.inr c))⟩, fun h z => z.elim h.1 (fun z => z h.2)⟩
theorem lb_6 {P : Nat → Prop} (h0 : P 0) (h1 : P 1) (h2 : P 2) (h3 : P 3) (h4 : P 4) (h5 : P 5) {k : Nat} (hk : k < 6) : P k := by
  have h : k = 0 ∨ k = 1 ∨ k = 2 ∨ k = 3 ∨ k = 4 ∨ k = 5 := by omega
  rcases h with h | h | h | h | h | h <;> subst h <;> assumption
section
variable (lv ct pt : Int32) (cs : Nat → Int64) (W : Nat → Int32) (fs gs E q : Nat → Int64)
theorem xk_is {post : Int64 → Prop} {k c p : Nat} {y : Int32} (hk : k < 6) (hy : k < 3 → y = nI c ∧ c < 24) (hp : p < 32) (H : ∀ w, (∀ s, s < 64 → (lb_b w s ↔ sp_K E fs gs cs p c s k)) → post w) : wpX_statesOfKind post (lv, ct, pt, cs, W, fs, gs, E, q) (nI k) (nI p) y := by
  have vp : vp_in (nI p) 32 := lb_vi hp (by decide)
  have ep : (nI p).toNatClampNeg = p := lb_cl (by omega)
  revert H hy
  refine lb_6 (P := fun k => (k < 3 → y = nI c ∧ c < 24) → (∀ w, (∀ s, s < 64 → (lb_b w s ↔ sp_K E fs gs cs p c s k)) → post w) → wpX_statesOfKind post (lv, ct, pt, cs, W, fs, gs, E, q) (nI k) (nI p) y) ?_ ?_ ?_ ?_ ?_ ?_ hk
  · intro hy H
    obtain ⟨ey, hc⟩ := hy (by omega)
    subst ey
    have ec : (nI c).toNatClampNeg = c := lb_cl (by omega)
    refine br_f (by decide) (br_f (by decide) (br_t rfl (And.intro vp (And.intro vp (And.intro (lb_vi hc (by decide)) (xa_mE lv ct pt cs W fs gs E q hp (fun w hw => H _ (fun s hs => ?_))))))))
    rw [lb_not _ hs, lb_or, lb_or, hw s hs, ec, ep, sp_meN]
    exact lb_n3
  · intro hy H
    obtain ⟨ey, hc⟩ := hy (by omega)
    subst ey
    have ec : (nI c).toNatClampNeg = c := lb_cl (by omega)
    refine br_f (by decide) (br_f (by decide) (br_f (by decide) (br_t rfl (And.intro vp (And.intro (lb_vi hc (by decide)) (xa_mE lv ct pt cs W fs gs E q hp (fun w hw => H _ (fun s hs => ?_))))))))
    rw [lb_not _ hs, lb_or, hw s hs, ec, ep, sp_meN]
    exact lb_n2
  · intro hy H
    obtain ⟨ey, hc⟩ := hy (by omega)
    subst ey
    have ec : (nI c).toNatClampNeg = c := lb_cl (by omega)
    refine br_f (by decide) (br_f (by decide) (br_f (by decide) (br_f (by decide) (br_t rfl (And.intro (lb_vi hc (by decide)) (xa_mE lv ct pt cs W fs gs E q hp (fun w hw => H _ (fun s hs => ?_))))))))
    rw [hw s hs, ec, sp_meP]
    exact Iff.rfl
  · intro _ H
    refine br_f (by decide) (br_f (by decide) (br_f (by decide) (br_f (by decide) (br_f (by decide) (br_t rfl (And.intro vp (H _ (fun s hs => ?_))))))))
    rw [ep]
    exact Iff.rfl
  · intro _ H
    refine br_f (by decide) (br_f (by decide) (br_f (by decide) (br_f (by decide) (br_f (by decide) (br_f (by decide) (br_t rfl (And.intro vp (H _ (fun s hs => ?_)))))))))
    rw [ep]
    exact Iff.rfl
  · intro _ H
    refine br_f (by decide) (br_t (by decide) (And.intro vp (And.intro vp (xa_mE lv ct pt cs W fs gs E q hp (fun w hw => H _ (fun s hs => ?_))))))
    rw [lb_not _ hs, lb_or, lb_or, hw s hs, ep, sp_meA]
    exact lb_n3
end
section
variable (fc fp fg : Int32) (hd W : Nat → Int32) (E : Nat → Int64) (F G b r : Nat → Int32)
theorem yk_lo {post : Int32 → Prop} {k : Int32} {c a : Nat} {T : Int64} (ha : a < 2048) (hc : c < 24) (hk : ¬ 2 < k) (hT : ∀ t, t < 64 → hd (64 * c + t) = lb_i (lb_b T t)) (H : wY_isKind_18 post k (nI c) (nI a) fc fp fg hd W E F G b r 1 (lb_i (∃ t, t < 64 ∧ lb_b (E a) t ∧ lb_b T t)) (lb_i (¬ ∃ t, t < 64 ∧ lb_b (E a) t ∧ ¬ lb_b T t)) (nI 64)) : ∀ d i, i + d = 64 → wY_isKind_18 post k (nI c) (nI a) fc fp fg hd W E F G b r (d + 1) (lb_i (∃ t, t < i ∧ lb_b (E a) t ∧ lb_b T t)) (lb_i (¬ ∃ t, t < i ∧ lb_b (E a) t ∧ ¬ lb_b T t)) (nI i) := by
  have va : vp_in (nI a) 2048 := lb_vi ha (by decide)
  have ea : (nI a).toNatClampNeg = a := lb_cl ha
  intro d
  induction d with
  | zero =>
    intro i hi
    have e : i = 64 := by omega
    subst e
    exact H
  | succ d ih =>
    intro i hi
    have hl : i < 64 := by omega
    have vh : vp_in ((64 * nI c) + nI i) 1536 := lb_in2 hc hl rfl (by decide)
    have eh : hd ((64 * nI c) + nI i).toNatClampNeg = lb_i (lb_b T i) := by rw [lb_at2 (by omega) hl, hT i hl]
    have k1 := ih (i + 1) (by omega)
    rw [lb_ic (lb_exS (P := fun t => lb_b (E a) t ∧ lb_b T t)), lb_ic (not_congr (lb_exS (P := fun t => lb_b (E a) t ∧ ¬ lb_b T t)))] at k1
    refine br_f (lb_64 hl) (And.intro va (br_c (fun z => ?_) (fun z => ?_)))
    · rw [ea, lb_t1 hl] at z
      refine br_f (by decide) (br_f hk (And.intro vh (lb_brE eh (fun n => br_f (by decide) (br_f hk (And.intro vh (lb_brE eh (fun _ => nm_r (nI_1 i) ?_) (fun p => absurd p n))))) (fun p => br_f (by decide) (br_f hk (And.intro vh (lb_brE eh (fun n => absurd p n) (fun _ => nm_r (nI_1 i) ?_))))))))
      · rw [lb_ic (show ((∃ t, t < i ∧ lb_b (E a) t ∧ lb_b T t) ∨ (lb_b (E a) i ∧ lb_b T i)) ↔ ∃ t, t < i ∧ lb_b (E a) t ∧ lb_b T t from ⟨fun y => y.elim id (fun y => absurd y.2 n), Or.inl⟩), lb_i0 (P := ¬ ((∃ t, t < i ∧ lb_b (E a) t ∧ ¬ lb_b T t) ∨ (lb_b (E a) i ∧ ¬ lb_b T i))) (fun y => y (Or.inr ⟨z, n⟩))] at k1
        exact k1
      · rw [lb_i1 (Or.inr ⟨z, p⟩), lb_ic (not_congr (show ((∃ t, t < i ∧ lb_b (E a) t ∧ ¬ lb_b T t) ∨ (lb_b (E a) i ∧ ¬ lb_b T i)) ↔ ∃ t, t < i ∧ lb_b (E a) t ∧ ¬ lb_b T t from ⟨fun y => y.elim id (fun y => absurd p y.2), Or.inl⟩))] at k1
        exact k1
    · rw [ea, lb_t1 hl] at z
      rw [lb_ic (show ((∃ t, t < i ∧ lb_b (E a) t ∧ lb_b T t) ∨ (lb_b (E a) i ∧ lb_b T i)) ↔ ∃ t, t < i ∧ lb_b (E a) t ∧ lb_b T t from ⟨fun y => y.elim id (fun y => absurd y.1 z), Or.inl⟩), lb_ic (not_congr (show ((∃ t, t < i ∧ lb_b (E a) t ∧ ¬ lb_b T t) ∨ (lb_b (E a) i ∧ ¬ lb_b T i)) ↔ ∃ t, t < i ∧ lb_b (E a) t ∧ ¬ lb_b T t from ⟨fun y => y.elim id (fun y => absurd y.1 z), Or.inl⟩))] at k1
      exact br_t rfl (br_t rfl (nm_r (nI_1 i) k1))
theorem yk_hi {post : Int32 → Prop} {k y : Int32} {a : Nat} (ha : a < 2048) (hk : 2 < k) (H : wY_isKind_18 post k y (nI a) fc fp fg hd W E F G b r 1 0 1 (nI 64)) : ∀ d i, i + d = 64 → wY_isKind_18 post k y (nI a) fc fp fg hd W E F G b r (d + 1) 0 1 (nI i) := by
  have va : vp_in (nI a) 2048 := lb_vi ha (by decide)
  intro d
  induction d with
  | zero =>
    intro i hi
    have e : i = 64 := by omega
    subst e
    exact H
  | succ d ih =>
    intro i hi
    have hl : i < 64 := by omega
    have k1 := ih (i + 1) (by omega)
    exact br_f (lb_64 hl) (And.intro va (br_c (fun _ => br_f (by decide) (br_t hk (br_f (by decide) (br_t hk (nm_r (nI_1 i) k1))))) (fun _ => br_t rfl (br_t rfl (nm_r (nI_1 i) k1)))))
theorem yk_all {X T : Nat → Prop} : (¬ ∃ t, t < 64 ∧ X t ∧ ¬ T t) ↔ ∀ t, t < 64 → X t → T t :=
  ⟨fun h t ht hx => Classical.byContradiction (fun n => h ⟨t, ht, hx, n⟩), fun h z => by obtain ⟨t, ht, hx, n⟩ := z; exact n (h t ht hx)⟩
theorem yk_is {post : Int32 → Prop} {fs gs cs : Nat → Int64} {k c p s : Nat} {y : Int32} (hk : k < 6) (hy : k < 3 → y = nI c ∧ c < 24) (hp : p < 32) (hs : s < 64) (RC : ∀ i s, i < 24 → s < 64 → hd (64 * i + s) = lb_i (lb_b (cs i) s)) (RF : ∀ i s, i < 32 → s < 64 → F (64 * i + s) = lb_i (lb_b (fs i) s)) (RG : ∀ i s, i < 32 → s < 64 → G (64 * i + s) = lb_i (lb_b (gs i) s)) (h : post (lb_i (sp_K E fs gs cs p c s k))) : wpY_isKind post (fc, fp, fg, hd, W, E, F, G, b, r) (nI k) (nI p) y (nI s) := by
  have ha : 64 * p + s < 2048 := by omega
  have va : vp_in (nI (64 * p + s)) 2048 := lb_vi ha (by decide)
  have ea : (nI (64 * p + s)).toNatClampNeg = 64 * p + s := lb_cl ha
  have eF : F (nI (64 * p + s)).toNatClampNeg = lb_i (lb_b (fs p) s) := by rw [ea, RF p s hp hs]
  have eG : G (nI (64 * p + s)).toNatClampNeg = lb_i (lb_b (gs p) s) := by rw [ea, RG p s hp hs]
  have s0 : ∀ X : Nat → Prop, (0 : Int32) = lb_i (∃ t, t < 0 ∧ X t) := fun X => (lb_i0 (fun z => by obtain ⟨t, ht, _⟩ := z; omega)).symm
  have s1 : ∀ X : Nat → Prop, (1 : Int32) = lb_i (¬ ∃ t, t < 0 ∧ X t) := fun X => (lb_i1 (fun z => by obtain ⟨t, ht, _⟩ := z; omega)).symm
  have lo : ∀ k : Int32, ¬ 2 < k → y = nI c → c < 24 → wY_isKind_18 post k (nI c) (nI (64 * p + s)) fc fp fg hd W E F G b r 1 (lb_i (∃ t, t < 64 ∧ lb_b (E (64 * p + s)) t ∧ lb_b (cs c) t)) (lb_i (¬ ∃ t, t < 64 ∧ lb_b (E (64 * p + s)) t ∧ ¬ lb_b (cs c) t)) (nI 64) → wpY_isKind post (fc, fp, fg, hd, W, E, F, G, b, r) k (nI p) y (nI s) := by
    intro k hk ey hc hH
    subst ey
    have g := yk_lo fc fp fg hd W E F G b r (T := cs c) ha hc hk (fun t ht => RC c t hc ht) hH 64 0 rfl
    rw [← s0 (fun t => lb_b (E (64 * p + s)) t ∧ lb_b (cs c) t), ← s1 (fun t => lb_b (E (64 * p + s)) t ∧ ¬ lb_b (cs c) t)] at g
    exact nm_r (lb_ix2 p s) ⟨65, g⟩
  have hi : ∀ k : Int32, 2 < k → wY_isKind_18 post k y (nI (64 * p + s)) fc fp fg hd W E F G b r 1 0 1 (nI 64) → wpY_isKind post (fc, fp, fg, hd, W, E, F, G, b, r) k (nI p) y (nI s) := fun k hk hH => nm_r (lb_ix2 p s) ⟨65, yk_hi fc fp fg hd W E F G b r ha hk hH 64 0 rfl⟩
  revert h hy
  refine lb_6 (P := fun k => (k < 3 → y = nI c ∧ c < 24) → post (lb_i (sp_K E fs gs cs p c s k)) → wpY_isKind post (fc, fp, fg, hd, W, E, F, G, b, r) (nI k) (nI p) y (nI s)) ?_ ?_ ?_ ?_ ?_ ?_ hk
  · intro hy h
    obtain ⟨ey, hc⟩ := hy (by omega)
    refine lo 0 (by decide) ey hc (br_t lb_64x (br_t rfl (And.intro va (lb_brE eF (fun nf => And.intro va (lb_brE eG (fun ng => lb_br (fun na => lb_p0 h (fun z => na (yk_all.mpr z.2.2))) (fun a => lb_p1 h ⟨nf, ng, yk_all.mp a⟩)) (fun g => lb_p0 h (fun z => z.2.1 g)))) (fun f => lb_p0 h (fun z => z.1 f))))))
  · intro hy h
    obtain ⟨ey, hc⟩ := hy (by omega)
    refine lo 1 (by decide) ey hc (br_t lb_64x (br_f (by decide) (br_t rfl (And.intro va (lb_brE eF (fun nf => lb_br (fun na => lb_p0 h (fun z => na (yk_all.mpr z.2))) (fun a => lb_p1 h ⟨nf, yk_all.mp a⟩)) (fun f => lb_p0 h (fun z => z.1 f)))))))
  · intro hy h
    obtain ⟨ey, hc⟩ := hy (by omega)
    exact lo 2 (by decide) ey hc (br_t lb_64x (br_f (by decide) (br_f (by decide) (br_t rfl (And.intro (lb_nar _) h)))))
  · intro _ h
    refine hi 3 (by decide) (br_t lb_64x (br_f (by decide) (br_f (by decide) (br_f (by decide) (br_t rfl (And.intro va ?_))))))
    rw [eF]
    exact And.intro (lb_nar _) h
  · intro _ h
    refine hi 4 (by decide) (br_t lb_64x (br_f (by decide) (br_f (by decide) (br_f (by decide) (br_f (by decide) (br_t rfl (And.intro va ?_)))))))
    rw [eG]
    exact And.intro (lb_nar _) h
  · intro _ h
    refine hi 5 (by decide) (br_t lb_64x (br_f (by decide) (br_f (by decide) (br_f (by decide) (br_f (by decide) (br_f (by decide) (And.intro va (lb_brE eF (fun nf => And.intro va (lb_brE eG (fun ng => And.intro va (br_c (fun z => lb_p1 h ⟨nf, ng, ?_⟩) (fun z => lb_p0 h (fun w => z ?_)))) (fun g => lb_p0 h (fun z => z.2.1 g)))) (fun f => lb_p0 h (fun z => z.1 f))))))))))
    · rw [ea] at z
      exact z
    · rw [ea]
      exact w.2.2
end
end
section
/-- the same numbers, the same ends and weights; a set of states is the row of its truths -/
def i_Rel (k : Nat) (u : SX) (v : SY) : Prop :=
  ∃ (lv : Int32) (c p : Nat) (cs : Nat → Int64) (W : Nat → Int32) (fs gs E q : Nat → Int64) (g : Int32) (hd F G b r : Nat → Int32), c ≤ 24 ∧ p ≤ 32 ∧ u = (lv, nI c, nI p, cs, W, fs, gs, E, q) ∧ v = (nI c, nI p, g, hd, W, E, F, G, b, r) ∧ (∀ i s, i < 24 → s < 64 → hd (64 * i + s) = lb_i (lb_b (cs i) s)) ∧ (∀ i s, i < 32 → s < 64 → F (64 * i + s) = lb_i (lb_b (fs i) s)) ∧ (∀ i s, i < 32 → s < 64 → G (64 * i + s) = lb_i (lb_b (gs i) s))
theorem i_up {k : Nat} {u : SX} {v : SY} (h : i_Rel k u v) : i_Rel (k + 5) u v := h
theorem i_vc0 : wpX_init (fun u => wpY_init (fun v => i_Rel 0 u v)) := by
  have z : ∀ s : Nat, (0 : Int32) = lb_i (lb_b 0 s) := fun s => (lb_i0 (lb_0 s)).symm
  exact ⟨1, 0, 0, fun _ => 0, fun _ => 0, fun _ => 0, fun _ => 0, fun _ => 0, fun _ => 0, 0, fun _ => 0, fun _ => 0, fun _ => 0, fun _ => 0, fun _ => 0, by omega, by omega, rfl, rfl, fun _ s _ _ => z s, fun _ s _ _ => z s, fun _ s _ _ => z s⟩
def lb_q (c p : Nat) (k x y : Int32) : Prop := lb_x 6 k ∧ lb_x p x ∧ (2 < k ∨ lb_x c y)
theorem lb_qd {c p : Nat} {k x y : Int32} (h : lb_q c p k x y) (hc : c ≤ 24) : ∃ j i c', j < 6 ∧ i < p ∧ k = nI j ∧ x = nI i ∧ (j < 3 → y = nI c' ∧ c' < 24) := by
  obtain ⟨⟨j, hj, ej⟩, ⟨i, hi, ei⟩, h3⟩ := h
  subst ej
  rcases h3 with h3 | ⟨c', hc', ec⟩
  · have h3 : nI 2 < nI j := h3
    rw [nI_ltI (by decide) (by omega)] at h3
    exact ⟨j, i, 0, hj, hi, rfl, ei, fun z => by omega⟩
  · exact ⟨j, i, c', hj, hi, rfl, ei, fun _ => ⟨ec, by omega⟩⟩
theorem lb_gt {n : Nat} {x : Int32} (h : lb_x (n + 1) x) (hn : n + 1 < 2 ^ 31) : ¬ nI n < x := by
  obtain ⟨j, hj, e⟩ := h
  subst e
  rw [nI_ltI (by omega) (by omega)]
  omega
section
variable (lv : Int32) (cs : Nat → Int64) (W : Nat → Int32) (fs gs E q : Nat → Int64)
theorem xa_isQ {post : Int32 → Prop} {c p : Nat} {k x y : Int32} (hc : c ≤ 24) (hp : p ≤ 32) (h : post (lb_i (lb_q c p k x y))) : wpX_isQuestion post (lv, nI c, nI p, cs, W, fs, gs, E, q) k x y := by
  refine br_c (fun z => lb_p0 h (fun w => lb_x0 w.1 (by decide) z)) (fun z => br_c (fun z2 => lb_p0 h (fun w => lb_gt (n := 5) w.1 (by decide) z2)) (fun z2 => ?_))
  have h6 : lb_x 6 k := (lb_xK (n := 5) (by decide) k).mp ⟨Int32.not_lt.mp z, Int32.not_lt.mp z2⟩
  exact xa_isProg lv (nI c) cs W fs gs E q hp (lb_br (fun n => lb_p0 h (fun w => n w.2.1)) (fun m => br_c (fun z3 => lb_p1 h ⟨h6, m, Or.inl z3⟩) (fun z3 => xa_isCond lv (nI p) cs W fs gs E q hc (lb_br (fun n => lb_p0 h (fun w => w.2.2.elim z3 n)) (fun m2 => lb_p1 h ⟨h6, m, Or.inr m2⟩)))))
end
section
variable (fg : Int32) (hd W : Nat → Int32) (E : Nat → Int64) (F G b r : Nat → Int32)
theorem ya_isA {post : Int32 → Prop} {c p : Nat} {k x y : Int32} (hc : c ≤ 24) (hp : p ≤ 32) (h : post (lb_i (lb_q c p k x y))) : wpY_isAsked post (nI c, nI p, fg, hd, W, E, F, G, b, r) k x y := by
  unfold wpY_isAsked
  exact ya_inK (n := 5) (by decide) rfl (lb_br (fun n => lb_p0 h (fun w => n w.1)) (fun h6 => ya_isProg (nI c) fg hd W E F G b r hp (lb_br (fun n => lb_p0 h (fun w => n w.2.1)) (fun m => br_c (fun z3 => lb_p1 h ⟨h6, m, Or.inl z3⟩) (fun z3 => ya_isCond (nI p) fg hd W E F G b r hc (lb_br (fun n => lb_p0 h (fun w => w.2.2.elim z3 n)) (fun m2 => lb_p1 h ⟨h6, m, Or.inr m2⟩)))))))
end
section
variable (fc fp fg : Int32) (hd W : Nat → Int32) (E : Nat → Int64) (F G b r : Nat → Int32)
theorem yq_count {post : Int32 → Prop} {k x y : Int32} {K : Nat → Prop} (h : post (nI (gr_sz K 64))) (HK : ∀ (post' : Int32 → Prop) (s : Nat), s < 64 → post' (lb_i (K s)) → wpY_isKind post' (fc, fp, fg, hd, W, E, F, G, b, r) k x y (nI s)) : ∀ d i, i + d = 64 → wY_count_18 post k x y fc fp fg hd W E F G b r (d + 1) (nI (gr_sz K i)) (nI i) := by
  intro d
  induction d with
  | zero =>
    intro i hi
    have e : i = 64 := by omega
    subst e
    exact br_t lb_64x h
  | succ d ih =>
    intro i hi
    have hl : i < 64 := by omega
    refine br_f (lb_64 hl) (HK _ i hl (lb_br (fun n => nm_r (nI_1 i) ?_) (fun p => nm_r (nI_1 _) (nm_r (nI_1 i) ?_))))
    · rw [← lb_szf n]
      exact ih (i + 1) (by omega)
    · rw [← lb_szt p]
      exact ih (i + 1) (by omega)
theorem yq_first {post : Int32 → Prop} {k x y : Int32} {K : Nat → Prop} (HK : ∀ (post' : Int32 → Prop) (s : Nat), s < 64 → post' (lb_i (K s)) → wpY_isKind post' (fc, fp, fg, hd, W, E, F, G, b, r) k x y (nI s)) : ∀ d i, i + d = 64 → post (lb_mem K 0 d i 0) → wY_first_15 post k x y fc fp fg hd W E F G b r (d + 1) (nI i) := by
  intro d
  induction d with
  | zero =>
    intro i hi h
    have e : i = 64 := by omega
    subst e
    exact br_t lb_64x h
  | succ d ih =>
    intro i hi h
    have hl : i < 64 := by omega
    refine br_f (lb_64 hl) (HK _ i hl (lb_br (fun n => nm_r (nI_1 i) ?_) (fun p => ?_)))
    · rw [lb_memf n] at h
      exact ih (i + 1) (by omega) h
    · rw [lb_memt (k := 0) (b := 0) p nI_0] at h
      exact h
theorem yq_size5 {post : Int32 → Prop} {w : Int64} (h : post (nI (gr_sz (lb_b w) 64))) : ∀ d i, i + d = 64 → wY_size_5 post w fc fp fg hd W E F G b r (d + 1) (nI (gr_sz (lb_b w) i)) (nI i) := by
  intro d
  induction d with
  | zero =>
    intro i hi
    have e : i = 64 := by omega
    subst e
    exact br_t lb_64x h
  | succ d ih =>
    intro i hi
    have hl : i < 64 := by omega
    refine br_f (lb_64 hl) (br_c (fun z => nm_r (nI_1 _) (nm_r (nI_1 i) ?_)) (fun z => nm_r (nI_1 i) ?_))
    · rw [lb_t1 hl] at z
      rw [← lb_szt z]
      exact ih (i + 1) (by omega)
    · rw [lb_t1 hl] at z
      rw [← lb_szf z]
      exact ih (i + 1) (by omega)
theorem yq_size {post : Int32 → Prop} {w : Int64} (h : post (nI (gr_sz (lb_b w) 64))) : wpY_size post (fc, fp, fg, hd, W, E, F, G, b, r) w := ⟨65, yq_size5 fc fp fg hd W E F G b r h 64 0 rfl⟩
theorem yq_end27 {post : Int32 → Prop} {p s : Nat} {k : Int32} (hp : p < 32) (hs : s < 64) : ∀ d i n, i + d = 64 → post (lb_mem (lb_b (E (64 * p + s))) k d i n) → wY_end_27 post (nI p) (nI s) k fc fp fg hd W E F G b r (d + 1) (nI n) (nI i) := by
  intro d
  induction d with
  | zero =>
    intro i n hi h
    have e : i = 64 := by omega
    subst e
    exact br_t lb_64x h
  | succ d ih =>
    intro i n hi h
    have hl : i < 64 := by omega
    have ea : ((64 * nI p) + nI s).toNatClampNeg = 64 * p + s := lb_at2 (by omega) hs
    refine br_f (lb_64 hl) (And.intro (lb_in2 hp hs rfl (by decide)) (br_c (fun z => br_c (fun e => ?_) (fun e => nm_r (nI_1 n) (nm_r (nI_1 i) ?_))) (fun z => nm_r (nI_1 i) ?_)))
    · rw [ea, lb_t1 hl] at z
      rw [lb_memt z e] at h
      exact h
    · rw [ea, lb_t1 hl] at z
      rw [lb_memn z e] at h
      exact ih (i + 1) (n + 1) (by omega) h
    · rw [ea, lb_t1 hl] at z
      rw [lb_memf z] at h
      exact ih (i + 1) n (by omega) h
theorem yq_after23 {post : Int32 → Prop} {p c : Nat} {T : Int64} (hp : p < 32) (hc : c < 24) (hT : ∀ t, t < 64 → hd (64 * c + t) = lb_i (lb_b T t)) (H : ∀ w, (∀ j, j < 64 → (lb_b w j ↔ ∃ t, t < 64 ∧ lb_b T t ∧ lb_b (E (64 * p + t)) j)) → post (nI (gr_sz (lb_b w) 64))) : ∀ d i w, i + d = 64 → lb_uni (fun t => E (64 * p + t)) (lb_b T) i w → wY_after_23 post (nI p) (nI c) fc fp fg hd W E F G b r (d + 1) w (nI i) := by
  intro d
  induction d with
  | zero =>
    intro i w hi h
    have e : i = 64 := by omega
    subst e
    exact br_t lb_64x (yq_size fc fp fg hd W E F G b r (H w h))
  | succ d ih =>
    intro i w hi h
    have hl : i < 64 := by omega
    have eh : hd ((64 * nI c) + nI i).toNatClampNeg = lb_i (lb_b T i) := by rw [lb_at2 (by omega) hl, hT i hl]
    have ea : ((64 * nI p) + nI i).toNatClampNeg = 64 * p + i := lb_at2 (by omega) hl
    refine br_f (lb_64 hl) (And.intro (lb_in2 hc hl rfl (by decide)) (lb_brE eh (fun n => nm_r (nI_1 i) (ih (i + 1) w (by omega) (lb_uniF h n))) (fun m => And.intro (lb_in2 hp hl rfl (by decide)) (nm_r (e' := w ||| E (64 * p + i)) (by rw [ea]) (nm_r (nI_1 i) (ih (i + 1) _ (by omega) (lb_uniT h m)))))))
end
theorem i_vc_count {k : Nat} {u : SX} {v : SY} (I : i_Rel k u v) (hk : k + 5 ≤ 2560) (v1 : Int32) (v2 : Int32) (v3 : Int32) : wpX_count (fun r => wpY_count (fun r' => r' = r ∧ i_Rel (k + 5) u v) v v1 v2 v3) u v1 v2 v3 := by
  have J : i_Rel (k + 5) u v := I
  obtain ⟨lv, c, p, cs, W, fs, gs, E, q, g, hd, F, G, b, r, hc, hp, eu, ev, RC, RF, RG⟩ := I
  subst eu ev
  unfold wpX_count wpY_count
  refine xa_isQ lv cs W fs gs E q hc hp (lb_br (fun n => ya_isA g hd W E F G b r hc hp (lb_br (fun _ => ⟨rfl, J⟩) (fun m => absurd m n))) (fun ok => ?_))
  obtain ⟨j, i, c', hj, hi, ej, ei, hy⟩ := lb_qd ok hc
  subst ej ei
  refine xk_is lv (nI c) (nI p) cs W fs gs E q hj hy (by omega) (fun w hw => xa_size (ya_isA g hd W E F G b r hc hp (lb_br (fun n => absurd ok n) (fun _ => ⟨65, yq_count (nI c) (nI p) g hd W E F G b r (K := fun s => sp_K E fs gs cs i c' s j) ?_ (fun post' s hs h => yk_is (nI c) (nI p) g hd W E F G b r hj hy (by omega) hs RC RF RG h) 64 0 rfl⟩))))
  rw [lb_szc hw]
  exact ⟨rfl, J⟩
theorem i_vc_first {k : Nat} {u : SX} {v : SY} (I : i_Rel k u v) (hk : k + 5 ≤ 2560) (v1 : Int32) (v2 : Int32) (v3 : Int32) : wpX_first (fun r => wpY_first (fun r' => r' = r ∧ i_Rel (k + 5) u v) v v1 v2 v3) u v1 v2 v3 := by
  have J : i_Rel (k + 5) u v := I
  obtain ⟨lv, c, p, cs, W, fs, gs, E, q, g, hd, F, G, b, r, hc, hp, eu, ev, RC, RF, RG⟩ := I
  subst eu ev
  unfold wpX_first wpY_first
  refine xa_isQ lv cs W fs gs E q hc hp (lb_br (fun n => ya_isA g hd W E F G b r hc hp (lb_br (fun _ => ⟨rfl, J⟩) (fun m => absurd m n))) (fun ok => ?_))
  obtain ⟨j, i, c', hj, hi, ej, ei, hy⟩ := lb_qd ok hc
  subst ej ei
  refine xk_is lv (nI c) (nI p) cs W fs gs E q hj hy (by omega) (fun w hw => xa_member (ya_isA g hd W E F G b r hc hp (lb_br (fun n => absurd ok n) (fun _ => ⟨65, yq_first (nI c) (nI p) g hd W E F G b r (K := fun s => sp_K E fs gs cs i c' s j) (fun post' s hs h => yk_is (nI c) (nI p) g hd W E F G b r hj hy (by omega) hs RC RF RG h) 64 0 rfl ?_⟩))))
  rw [lb_memc 64 0 0 (fun s hs => hw s (by omega))]
  exact ⟨rfl, J⟩
theorem i_vc_is {k : Nat} {u : SX} {v : SY} (I : i_Rel k u v) (hk : k + 5 ≤ 2560) (v1 : Int32) (v2 : Int32) (v3 : Int32) (v4 : Int32) : wpX_is (fun r => wpY_is (fun r' => r' = r ∧ i_Rel (k + 5) u v) v v1 v2 v3 v4) u v1 v2 v3 v4 := by
  have J : i_Rel (k + 5) u v := I
  obtain ⟨lv, c, p, cs, W, fs, gs, E, q, g, hd, F, G, b, r, hc, hp, eu, ev, RC, RF, RG⟩ := I
  subst eu ev
  unfold wpX_is wpY_is
  refine xa_isQ lv cs W fs gs E q hc hp (lb_br (fun n => ya_isA g hd W E F G b r hc hp (lb_br (fun _ => ⟨rfl, J⟩) (fun m => absurd m n))) (fun ok => xa_isState (lb_br (fun n => ya_isA g hd W E F G b r hc hp (lb_br (fun n => absurd ok n) (fun _ => ya_inK (n := 63) (by decide) rfl (lb_br (fun _ => ⟨rfl, J⟩) (fun m => absurd m n))))) (fun hs => ?_))))
  obtain ⟨j, i, c', hj, hi, ej, ei, hy⟩ := lb_qd ok hc
  subst ej ei
  have hs' := hs
  obtain ⟨s, hs2, es⟩ := hs'
  subst es
  refine xk_is lv (nI c) (nI p) cs W fs gs E q hj hy (by omega) (fun w hw => xa_contains hs2 (And.intro (lb_nar _) (ya_isA g hd W E F G b r hc hp (lb_br (fun n => absurd ok n) (fun _ => ya_inK (n := 63) (by decide) rfl (lb_br (fun n => absurd hs n) (fun _ => yk_is (nI c) (nI p) g hd W E F G b r hj hy (by omega) hs2 RC RF RG (lb_br (fun n => ⟨?_, J⟩) (fun m => ⟨?_, J⟩)))))))))
  · exact (lb_i0 (fun z => n ((hw s hs2).mp z))).symm
  · exact (lb_i1 ((hw s hs2).mpr m)).symm
theorem i_vc_holds {k : Nat} {u : SX} {v : SY} (I : i_Rel k u v) (hk : k + 5 ≤ 2560) (v1 : Int32) (v2 : Int32) : wpX_holds (fun r => wpY_holds (fun r' => r' = r ∧ i_Rel (k + 5) u v) v v1 v2) u v1 v2 := by
  have J : i_Rel (k + 5) u v := I
  obtain ⟨lv, c, p, cs, W, fs, gs, E, q, g, hd, F, G, b, r, hc, hp, eu, ev, RC, RF, RG⟩ := I
  subst eu ev
  unfold wpX_holds wpY_holds
  refine xa_isCond lv (nI p) cs W fs gs E q hc (lb_br (fun n => ya_isCond (nI p) g hd W E F G b r hc (lb_br (fun _ => ⟨rfl, J⟩) (fun m => absurd m n))) (fun ok => xa_isState (lb_br (fun n => ya_isCond (nI p) g hd W E F G b r hc (lb_br (fun n => absurd ok n) (fun _ => ya_inK (n := 63) (by decide) rfl (lb_br (fun _ => ⟨rfl, J⟩) (fun m => absurd m n))))) (fun hs => ?_))))
  have ok' := ok
  obtain ⟨i, hi, ei⟩ := ok'
  subst ei
  have hs' := hs
  obtain ⟨s, hs2, es⟩ := hs'
  subst es
  have eh : hd ((64 * nI i) + nI s).toNatClampNeg = lb_i (lb_b (cs i) s) := by rw [lb_at2 (by omega) hs2, RC i s (by omega) hs2]
  have ei : (nI i).toNatClampNeg = i := lb_cl (by omega)
  have ky : ∀ (post : Int32 → Prop), post (lb_i (lb_b (cs i) s)) → wpY_isCondition (fun r_1 => (((r_1 = 0 → (post 0)) ∧ (¬ r_1 = 0 → (wpY_in (fun r_13 => (((r_13 = 0 → (post 0)) ∧ (¬ r_13 = 0 → (vp_in ((64 * nI i) + nI s) 1536 ∧ ((((hd ((64 * nI i) + nI s).toNatClampNeg) = 0 → (post 0)) ∧ (¬ (hd ((64 * nI i) + nI s).toNatClampNeg) = 0 → (post 1))))))))) (nI c, nI p, g, hd, W, E, F, G, b, r) (nI s) 0 63))))) (nI c, nI p, g, hd, W, E, F, G, b, r) (nI i) :=
    fun post h => ya_isCond (nI p) g hd W E F G b r hc (lb_br (fun n => absurd ok n) (fun _ => ya_inK (n := 63) (by decide) rfl (lb_br (fun n => absurd hs n) (fun _ => And.intro (lb_in2 (n := 24) (by omega) hs2 rfl (by decide)) (lb_brE eh (fun n => lb_p0 h n) (fun m => lb_p1 h m))))))
  refine And.intro (lb_vi (by omega) (by decide)) ?_
  rw [ei]
  refine xa_contains hs2 (lb_br (fun n => ?_) (fun m => ?_))
  · exact ky (fun r' => r' = 0 ∧ i_Rel (k + 5) (lv, nI c, nI p, cs, W, fs, gs, E, q) (nI c, nI p, g, hd, W, E, F, G, b, r)) ⟨lb_i0 n, J⟩
  · exact ky (fun r' => r' = 1 ∧ i_Rel (k + 5) (lv, nI c, nI p, cs, W, fs, gs, E, q) (nI c, nI p, g, hd, W, E, F, G, b, r)) ⟨lb_i1 m, J⟩
theorem i_vc_drop {k : Nat} {u : SX} {v : SY} (I : i_Rel k u v) (hk : k + 5 ≤ 2560) : wpX_drop (fun r u' => wpY_drop (fun r' v' => r' = r ∧ i_Rel (k + 5) u' v') v) u := by
  obtain ⟨lv, c, p, cs, W, fs, gs, E, q, g, hd, F, G, b, r, hc, hp, eu, ev, RC, RF, RG⟩ := I
  subst eu ev
  exact ⟨rfl, lv, 0, 0, cs, W, fs, gs, E, q, g, hd, F, G, b, r, by omega, by omega, rfl, rfl, RC, RF, RG⟩
theorem i_vc_level {k : Nat} {u : SX} {v : SY} (I : i_Rel k u v) (hk : k + 5 ≤ 2560) (v1 : Int32) : wpX_level (fun r u' => wpY_level (fun r' => r' = r ∧ i_Rel (k + 5) u' v) v v1) u v1 := by
  obtain ⟨lv, c, p, cs, W, fs, gs, E, q, g, hd, F, G, b, r, hc, hp, eu, ev, RC, RF, RG⟩ := I
  subst eu ev
  have J : ∀ lv', i_Rel (k + 5) (lv', nI c, nI p, cs, W, fs, gs, E, q) (nI c, nI p, g, hd, W, E, F, G, b, r) := fun lv' => ⟨lv', c, p, cs, W, fs, gs, E, q, g, hd, F, G, b, r, hc, hp, rfl, rfl, RC, RF, RG⟩
  exact br_c (fun e => br_t e ⟨rfl, J v1⟩) (fun e => br_c (fun e2 => br_f e (br_t e2 ⟨rfl, J v1⟩)) (fun e2 => br_f e (br_f e2 ⟨rfl, J lv⟩)))
theorem i_vc_ends {k : Nat} {u : SX} {v : SY} (I : i_Rel k u v) (hk : k + 5 ≤ 2560) (v1 : Int32) (v2 : Int32) : wpX_ends (fun r => wpY_ends (fun r' => r' = r ∧ i_Rel (k + 5) u v) v v1 v2) u v1 v2 := by
  have J : i_Rel (k + 5) u v := I
  obtain ⟨lv, c, p, cs, W, fs, gs, E, q, g, hd, F, G, b, r, hc, hp, eu, ev, RC, RF, RG⟩ := I
  subst eu ev
  unfold wpX_ends wpY_ends
  refine xa_isProg lv (nI c) cs W fs gs E q hp (lb_br (fun n => ya_isProg (nI c) g hd W E F G b r hp (lb_br (fun _ => ⟨rfl, J⟩) (fun m => absurd m n))) (fun ok => xa_isState (lb_br (fun n => ya_isProg (nI c) g hd W E F G b r hp (lb_br (fun n => absurd ok n) (fun _ => ya_inK (n := 63) (by decide) rfl (lb_br (fun _ => ⟨rfl, J⟩) (fun m => absurd m n))))) (fun hs => ?_))))
  have ok' := ok
  obtain ⟨i, hi, ei⟩ := ok'
  subst ei
  have hs' := hs
  obtain ⟨s, hs2, es⟩ := hs'
  subst es
  refine And.intro (lb_in1 (n := 32) (by omega) hs2 rfl (by decide)) (xa_size (ya_isProg (nI c) g hd W E F G b r hp (lb_br (fun n => absurd ok n) (fun _ => ya_inK (n := 63) (by decide) rfl (lb_br (fun n => absurd hs n) (fun _ => And.intro (lb_in2 (n := 32) (by omega) hs2 rfl (by decide)) (yq_size (nI c) (nI p) g hd W E F G b r ⟨?_, J⟩)))))))
  rw [lb_at1 (by omega) hs2, lb_at2 (by omega) hs2]
theorem i_vc_end {k : Nat} {u : SX} {v : SY} (I : i_Rel k u v) (hk : k + 5 ≤ 2560) (v1 : Int32) (v2 : Int32) (v3 : Int32) : wpX_end (fun r => wpY_end (fun r' => r' = r ∧ i_Rel (k + 5) u v) v v1 v2 v3) u v1 v2 v3 := by
  have J : i_Rel (k + 5) u v := I
  obtain ⟨lv, c, p, cs, W, fs, gs, E, q, g, hd, F, G, b, r, hc, hp, eu, ev, RC, RF, RG⟩ := I
  subst eu ev
  unfold wpX_end wpY_end
  refine xa_isProg lv (nI c) cs W fs gs E q hp (lb_br (fun n => ya_isProg (nI c) g hd W E F G b r hp (lb_br (fun _ => ⟨rfl, J⟩) (fun m => absurd m n))) (fun ok => xa_isState (lb_br (fun n => ya_isProg (nI c) g hd W E F G b r hp (lb_br (fun n => absurd ok n) (fun _ => ya_inK (n := 63) (by decide) rfl (lb_br (fun _ => ⟨rfl, J⟩) (fun m => absurd m n))))) (fun hs => ?_))))
  have ok' := ok
  obtain ⟨i, hi, ei⟩ := ok'
  subst ei
  have hs' := hs
  obtain ⟨s, hs2, es⟩ := hs'
  subst es
  refine And.intro (lb_in1 (n := 32) (by omega) hs2 rfl (by decide)) (xa_member (ya_isProg (nI c) g hd W E F G b r hp (lb_br (fun n => absurd ok n) (fun _ => ya_inK (n := 63) (by decide) rfl (lb_br (fun n => absurd hs n) (fun _ => ⟨65, yq_end27 (nI c) (nI p) g hd W E F G b r (by omega) hs2 64 0 0 rfl ⟨?_, J⟩⟩))))))
  rw [lb_at1 (by omega) hs2]
theorem i_vc_after {k : Nat} {u : SX} {v : SY} (I : i_Rel k u v) (hk : k + 5 ≤ 2560) (v1 : Int32) (v2 : Int32) : wpX_after (fun r => wpY_after (fun r' => r' = r ∧ i_Rel (k + 5) u v) v v1 v2) u v1 v2 := by
  have J : i_Rel (k + 5) u v := I
  obtain ⟨lv, c, p, cs, W, fs, gs, E, q, g, hd, F, G, b, r, hc, hp, eu, ev, RC, RF, RG⟩ := I
  subst eu ev
  unfold wpX_after wpY_after
  refine xa_isProg lv (nI c) cs W fs gs E q hp (lb_br (fun n => ya_isProg (nI c) g hd W E F G b r hp (lb_br (fun _ => ⟨rfl, J⟩) (fun m => absurd m n))) (fun ok => xa_isCond lv (nI p) cs W fs gs E q hc (lb_br (fun n => ya_isProg (nI c) g hd W E F G b r hp (lb_br (fun n => absurd ok n) (fun _ => ya_isCond (nI p) g hd W E F G b r hc (lb_br (fun _ => ⟨rfl, J⟩) (fun m => absurd m n))))) (fun hs => ?_))))
  have ok' := ok
  obtain ⟨i, hi, ei⟩ := ok'
  subst ei
  have hs' := hs
  obtain ⟨s, hs2, es⟩ := hs'
  subst es
  have ec : (nI s).toNatClampNeg = s := lb_cl (by omega)
  refine And.intro (lb_vi (by omega) (by decide)) (xa_eF lv (nI c) (nI p) cs W fs gs E q (by omega) (fun w hw => xa_size (ya_isProg (nI c) g hd W E F G b r hp (lb_br (fun n => absurd ok n) (fun _ => ya_isCond (nI p) g hd W E F G b r hc (lb_br (fun n => absurd hs n) (fun _ => ⟨65, yq_after23 (nI c) (nI p) g hd W E F G b r (T := cs s) (by omega) (by omega) (fun t ht => RC s t (by omega) ht) (fun w' hw' => ⟨?_, J⟩) 64 0 0 rfl (lb_uni0 _ _)⟩)))))))
  rw [ec] at hw
  have e : w' = w := lb_ext (fun j hj => (hw' j hj).trans (hw j hj).symm)
  rw [e]
end
section
def rf_S (E fs gs : Nat → Int64) (p q s : Nat) : Prop := (¬ lb_b (fs p) s ∧ ¬ lb_b (gs p) s) → (¬ lb_b (fs q) s ∧ ¬ lb_b (gs q) s ∧ E (64 * q + s) &&& (E (64 * p + s) ^^^ (-1)) = 0)
def rf_E (E fs gs : Nat → Int64) (p q s : Nat) : Prop := E (64 * p + s) = E (64 * q + s) ∧ (lb_b (fs p) s ↔ lb_b (fs q) s) ∧ (lb_b (gs p) s ↔ lb_b (gs q) s)
section
variable (lv ct pt : Int32) (cs : Nat → Int64) (W : Nat → Int32) (fs gs E qq : Nat → Int64)
theorem rf_x61 {post : Int32 → Prop} {p q : Nat} {w : Int64} (hp : p < 32) (hq : q < 32) (hw : ∀ s, s < 64 → (lb_b w s ↔ (¬ lb_b (fs p) s ∧ ¬ lb_b (gs p) s))) (h0 : ∀ s, s < 64 → lb_b w s → (¬ lb_b (fs q) s ∧ ¬ lb_b (gs q) s)) (h : post (lb_i (∀ s, s < 64 → rf_S E fs gs p q s))) : ∀ d i, i + d = 64 → (∀ s, s < i → rf_S E fs gs p q s) → wX_refines_61 post (nI p) (nI q) w lv ct pt cs W fs gs E qq (d + 1) (nI i) := by
  intro d
  induction d with
  | zero =>
    intro i hi g
    have e : i = 64 := by omega
    subst e
    exact br_t lb_64x (lb_p1 h g)
  | succ d ih =>
    intro i hi g
    have hl : i < 64 := by omega
    refine br_f (lb_64 hl) (And.intro (lb_in1 hq hl rfl (by decide)) (And.intro (lb_in1 hp hl rfl (by decide)) (nm_r (e' := E (64 * q + i) &&& (E (64 * p + i) ^^^ (-1))) (by rw [lb_at1 (by omega) hl, lb_at1 (by omega) hl]) (xa_contains hl (lb_br (fun n => nm_r (nI_1 i) (ih (i + 1) (by omega) (lt_s g ?_))) (fun m => br_c (fun z => nm_r (nI_1 i) (ih (i + 1) (by omega) (lt_s g ?_))) (fun z => lb_p0 h (fun c => z ?_))))))))
    · exact fun c => absurd ((hw i hl).mpr c) n
    · exact fun _ => ⟨(h0 i hl m).1, (h0 i hl m).2, z⟩
    · exact (c i hl ((hw i hl).mp m)).2.2
theorem rf_x54 {post : Int32 → Prop} {p q : Nat} (hp : p < 32) (hq : q < 32) (h0 : ∀ s, s < 64 → ((lb_b (fs p) s ↔ lb_b (fs q) s) ∧ (lb_b (gs p) s ↔ lb_b (gs q) s))) (h : post (lb_i (∀ s, s < 64 → rf_E E fs gs p q s))) : ∀ d i, i + d = 64 → (∀ s, s < i → rf_E E fs gs p q s) → wX_same_54 post (nI p) (nI q) lv ct pt cs W fs gs E qq (d + 1) (nI i) := by
  intro d
  induction d with
  | zero =>
    intro i hi g
    have e : i = 64 := by omega
    subst e
    exact br_t lb_64x (lb_p1 h g)
  | succ d ih =>
    intro i hi g
    have hl : i < 64 := by omega
    refine br_f (lb_64 hl) (And.intro (lb_in1 hp hl rfl (by decide)) (And.intro (lb_in1 hq hl rfl (by decide)) (br_c (fun z => nm_r (nI_1 i) (ih (i + 1) (by omega) (lt_s g ?_))) (fun z => lb_p0 h (fun c => z ?_)))))
    · rw [lb_at1 (by omega) hl, lb_at1 (by omega) hl] at z
      exact ⟨z, h0 i hl⟩
    · rw [lb_at1 (by omega) hl, lb_at1 (by omega) hl]
      exact (c i hl).1
end
section
variable (fc fp fg : Int32) (hd W : Nat → Int32) (E : Nat → Int64) (F G b r : Nat → Int32)
theorem rf_y20 {post : Int32 → Prop} {fs gs : Nat → Int64} {p q : Nat} (hp : p < 32) (hq : q < 32) (RF : ∀ i s, i < 32 → s < 64 → F (64 * i + s) = lb_i (lb_b (fs i) s)) (RG : ∀ i s, i < 32 → s < 64 → G (64 * i + s) = lb_i (lb_b (gs i) s)) (h : post (lb_i (∀ s, s < 64 → rf_S E fs gs p q s))) : ∀ d i, i + d = 64 → (∀ s, s < i → rf_S E fs gs p q s) → wY_refines_20 post (nI p) (nI q) fc fp fg hd W E F G b r (d + 1) (nI i) := by
  intro d
  induction d with
  | zero =>
    intro i hi g
    have e : i = 64 := by omega
    subst e
    exact br_t lb_64x (lb_p1 h g)
  | succ d ih =>
    intro i hi g
    have hl : i < 64 := by omega
    have va : vp_in (nI (64 * p + i)) 2048 := lb_vi (by omega) (by decide)
    have vb : vp_in (nI (64 * q + i)) 2048 := lb_vi (by omega) (by decide)
    have ea : (nI (64 * p + i)).toNatClampNeg = 64 * p + i := lb_cl (by omega)
    have eb : (nI (64 * q + i)).toNatClampNeg = 64 * q + i := lb_cl (by omega)
    have f1 : F (nI (64 * p + i)).toNatClampNeg = lb_i (lb_b (fs p) i) := by rw [ea, RF p i hp hl]
    have g1 : G (nI (64 * p + i)).toNatClampNeg = lb_i (lb_b (gs p) i) := by rw [ea, RG p i hp hl]
    have f2 : F (nI (64 * q + i)).toNatClampNeg = lb_i (lb_b (fs q) i) := by rw [eb, RF q i hq hl]
    have g2 : G (nI (64 * q + i)).toNatClampNeg = lb_i (lb_b (gs q) i) := by rw [eb, RG q i hq hl]
    refine br_f (lb_64 hl) (nm_r (lb_ix2 p i) (nm_r (lb_ix2 q i) (And.intro va (lb_brE f1 (fun n1 => And.intro va (lb_brE g1 (fun n2 => br_f (by decide) (And.intro vb (lb_brE f2 (fun n3 => And.intro vb (lb_brE g2 (fun n4 => And.intro vb (And.intro va (br_c (fun z => nm_r (nI_1 i) (ih (i + 1) (by omega) (lt_s g ?_))) (fun z => lb_p0 h (fun c => z ?_))))) (fun m => lb_p0 h (fun c => (c i hl ⟨n1, n2⟩).2.1 m)))) (fun m => lb_p0 h (fun c => (c i hl ⟨n1, n2⟩).1 m))))) (fun m => br_t rfl (nm_r (nI_1 i) (ih (i + 1) (by omega) (lt_s g (fun c => absurd m c.2))))))) (fun m => br_t rfl (nm_r (nI_1 i) (ih (i + 1) (by omega) (lt_s g (fun c => absurd m c.1)))))))))
    · rw [ea, eb] at z
      exact fun _ => ⟨n3, n4, z⟩
    · rw [ea, eb]
      exact (c i hl ⟨n1, n2⟩).2.2
theorem rf_ys20 {post : Int32 → Prop} {fs gs : Nat → Int64} {p q : Nat} (hp : p < 32) (hq : q < 32) (RF : ∀ i s, i < 32 → s < 64 → F (64 * i + s) = lb_i (lb_b (fs i) s)) (RG : ∀ i s, i < 32 → s < 64 → G (64 * i + s) = lb_i (lb_b (gs i) s)) (h : post (lb_i (∀ s, s < 64 → rf_E E fs gs p q s))) : ∀ d i, i + d = 64 → (∀ s, s < i → rf_E E fs gs p q s) → wY_same_20 post (nI p) (nI q) fc fp fg hd W E F G b r (d + 1) (nI i) := by
  intro d
  induction d with
  | zero =>
    intro i hi g
    have e : i = 64 := by omega
    subst e
    exact br_t lb_64x (lb_p1 h g)
  | succ d ih =>
    intro i hi g
    have hl : i < 64 := by omega
    have va : vp_in (nI (64 * p + i)) 2048 := lb_vi (by omega) (by decide)
    have vb : vp_in (nI (64 * q + i)) 2048 := lb_vi (by omega) (by decide)
    have ea : (nI (64 * p + i)).toNatClampNeg = 64 * p + i := lb_cl (by omega)
    have eb : (nI (64 * q + i)).toNatClampNeg = 64 * q + i := lb_cl (by omega)
    refine br_f (lb_64 hl) (nm_r (lb_ix2 p i) (nm_r (lb_ix2 q i) (And.intro va (And.intro vb (br_c (fun z1 => And.intro va (And.intro vb (br_c (fun z2 => And.intro va (And.intro vb (br_c (fun z3 => nm_r (nI_1 i) (ih (i + 1) (by omega) (lt_s g ?_))) (fun z3 => lb_p0 h (fun c => z3 ?_))))) (fun z2 => lb_p0 h (fun c => z2 ?_))))) (fun z1 => lb_p0 h (fun c => z1 ?_)))))))
    · rw [ea, eb] at z1 z2 z3
      rw [RF p i hp hl, RF q i hq hl, lb_ie] at z2
      rw [RG p i hp hl, RG q i hq hl, lb_ie] at z3
      exact ⟨z1, z2, z3⟩
    · rw [ea, eb, RG p i hp hl, RG q i hq hl, lb_ie]
      exact (c i hl).2.2
    · rw [ea, eb, RF p i hp hl, RF q i hq hl, lb_ie]
      exact (c i hl).2.1
    · rw [ea, eb]
      exact (c i hl).1
end
theorem i_vc_refines {k : Nat} {u : SX} {v : SY} (I : i_Rel k u v) (hk : k + 5 ≤ 2560) (v1 : Int32) (v2 : Int32) : wpX_refines (fun r => wpY_refines (fun r' => r' = r ∧ i_Rel (k + 5) u v) v v1 v2) u v1 v2 := by
  have J : i_Rel (k + 5) u v := I
  obtain ⟨lv, c, p, cs, W, fs, gs, E, q, g, hd, F, G, b, r, hc, hp, eu, ev, RC, RF, RG⟩ := I
  subst eu ev
  unfold wpX_refines wpY_refines
  refine xa_isProg lv (nI c) cs W fs gs E q hp (lb_br (fun n => ya_isProg (nI c) g hd W E F G b r hp (lb_br (fun _ => ⟨rfl, J⟩) (fun m => absurd m n))) (fun ok => xa_isProg lv (nI c) cs W fs gs E q hp (lb_br (fun n => ya_isProg (nI c) g hd W E F G b r hp (lb_br (fun n => absurd ok n) (fun _ => ya_isProg (nI c) g hd W E F G b r hp (lb_br (fun _ => ⟨rfl, J⟩) (fun m => absurd m n))))) (fun hs => ?_))))
  have ok' := ok
  obtain ⟨i, hi, ei⟩ := ok'
  subst ei
  have hs' := hs
  obtain ⟨j, hj, ej⟩ := hs'
  subst ej
  have ei : (nI i).toNatClampNeg = i := lb_cl (by omega)
  have ej : (nI j).toNatClampNeg = j := lb_cl (by omega)
  have vi : vp_in (nI i) 32 := lb_vi (by omega) (by decide)
  have vj : vp_in (nI j) 32 := lb_vi (by omega) (by decide)
  have hw : ∀ s, s < 64 → (lb_b ((fs i ||| gs i) ^^^ (-1)) s ↔ (¬ lb_b (fs i) s ∧ ¬ lb_b (gs i) s)) := by
    intro s hs
    rw [lb_not _ hs, lb_or]
    exact ⟨fun z => ⟨fun a => z (Or.inl a), fun a => z (Or.inr a)⟩, fun z y => y.elim z.1 z.2⟩
  have key : ∀ ans : Int32, ans = lb_i (∀ s, s < 64 → rf_S E fs gs i j s) → wpY_isProgram (fun r_1 => (((r_1 = 0 → ((0 : Int32) = ans ∧ i_Rel (k + 5) (lv, nI c, nI p, cs, W, fs, gs, E, q) (nI c, nI p, g, hd, W, E, F, G, b, r))) ∧ (¬ r_1 = 0 → (wpY_isProgram (fun r_13 => (((r_13 = 0 → ((0 : Int32) = ans ∧ i_Rel (k + 5) (lv, nI c, nI p, cs, W, fs, gs, E, q) (nI c, nI p, g, hd, W, E, F, G, b, r))) ∧ (¬ r_13 = 0 → (∃ n20 : Nat, wY_refines_20 (fun r' => r' = ans ∧ i_Rel (k + 5) (lv, nI c, nI p, cs, W, fs, gs, E, q) (nI c, nI p, g, hd, W, E, F, G, b, r)) (nI i) (nI j) (nI c) (nI p) g hd W E F G b r n20 0))))) (nI c, nI p, g, hd, W, E, F, G, b, r) (nI j)))))) (nI c, nI p, g, hd, W, E, F, G, b, r) (nI i) := by
    intro ans ha
    exact ya_isProg (nI c) g hd W E F G b r hp (lb_br (fun n => absurd ok n) (fun _ => ya_isProg (nI c) g hd W E F G b r hp (lb_br (fun n => absurd hs n) (fun _ => ⟨65, rf_y20 (nI c) (nI p) g hd W E F G b r (by omega) (by omega) RF RG ⟨ha.symm, J⟩ 64 0 rfl (fun s hs => by omega)⟩))))
  refine And.intro vi (And.intro vi (nm_r (e' := (fs i ||| gs i) ^^^ (-1)) (by rw [ei]) (And.intro vj (And.intro vj (br_c (fun z => ⟨65, rf_x61 lv (nI c) (nI p) cs W fs gs E q (by omega) (by omega) hw ?_ (key _ rfl) 64 0 rfl (fun s hs => by omega)⟩) (fun z => key 0 (lb_i0 (fun y => ?_)).symm))))))
  · rw [ej, lb_z] at z
    intro s hs2 hb
    refine ⟨fun a => z ⟨s, hs2, ?_⟩, fun a => z ⟨s, hs2, ?_⟩⟩
    · rw [lb_and, lb_or]
      exact ⟨hb, Or.inl a⟩
    · rw [lb_and, lb_or]
      exact ⟨hb, Or.inr a⟩
  · rw [ej, lb_nz] at z
    obtain ⟨s, hs2, z⟩ := z
    rw [lb_and, lb_or, hw s hs2] at z
    have h := y s hs2 z.1
    exact z.2.elim h.1 h.2.1
theorem i_vc_same {k : Nat} {u : SX} {v : SY} (I : i_Rel k u v) (hk : k + 5 ≤ 2560) (v1 : Int32) (v2 : Int32) : wpX_same (fun r => wpY_same (fun r' => r' = r ∧ i_Rel (k + 5) u v) v v1 v2) u v1 v2 := by
  have J : i_Rel (k + 5) u v := I
  obtain ⟨lv, c, p, cs, W, fs, gs, E, q, g, hd, F, G, b, r, hc, hp, eu, ev, RC, RF, RG⟩ := I
  subst eu ev
  unfold wpX_same wpY_same
  refine xa_isProg lv (nI c) cs W fs gs E q hp (lb_br (fun n => ya_isProg (nI c) g hd W E F G b r hp (lb_br (fun _ => ⟨rfl, J⟩) (fun m => absurd m n))) (fun ok => xa_isProg lv (nI c) cs W fs gs E q hp (lb_br (fun n => ya_isProg (nI c) g hd W E F G b r hp (lb_br (fun n => absurd ok n) (fun _ => ya_isProg (nI c) g hd W E F G b r hp (lb_br (fun _ => ⟨rfl, J⟩) (fun m => absurd m n))))) (fun hs => ?_))))
  have ok' := ok
  obtain ⟨i, hi, ei⟩ := ok'
  subst ei
  have hs' := hs
  obtain ⟨j, hj, ej⟩ := hs'
  subst ej
  have ei : (nI i).toNatClampNeg = i := lb_cl (by omega)
  have ej : (nI j).toNatClampNeg = j := lb_cl (by omega)
  have vi : vp_in (nI i) 32 := lb_vi (by omega) (by decide)
  have vj : vp_in (nI j) 32 := lb_vi (by omega) (by decide)
  have key : ∀ ans : Int32, ans = lb_i (∀ s, s < 64 → rf_E E fs gs i j s) → wpY_isProgram (fun r_1 => (((r_1 = 0 → ((0 : Int32) = ans ∧ i_Rel (k + 5) (lv, nI c, nI p, cs, W, fs, gs, E, q) (nI c, nI p, g, hd, W, E, F, G, b, r))) ∧ (¬ r_1 = 0 → (wpY_isProgram (fun r_13 => (((r_13 = 0 → ((0 : Int32) = ans ∧ i_Rel (k + 5) (lv, nI c, nI p, cs, W, fs, gs, E, q) (nI c, nI p, g, hd, W, E, F, G, b, r))) ∧ (¬ r_13 = 0 → (∃ n20 : Nat, wY_same_20 (fun r' => r' = ans ∧ i_Rel (k + 5) (lv, nI c, nI p, cs, W, fs, gs, E, q) (nI c, nI p, g, hd, W, E, F, G, b, r)) (nI i) (nI j) (nI c) (nI p) g hd W E F G b r n20 0))))) (nI c, nI p, g, hd, W, E, F, G, b, r) (nI j)))))) (nI c, nI p, g, hd, W, E, F, G, b, r) (nI i) := by
    intro ans ha
    exact ya_isProg (nI c) g hd W E F G b r hp (lb_br (fun n => absurd ok n) (fun _ => ya_isProg (nI c) g hd W E F G b r hp (lb_br (fun n => absurd hs n) (fun _ => ⟨65, rf_ys20 (nI c) (nI p) g hd W E F G b r (by omega) (by omega) RF RG ⟨ha.symm, J⟩ 64 0 rfl (fun s hs => by omega)⟩))))
  refine And.intro vi (And.intro vj (br_c (fun z1 => And.intro vi (And.intro vj (br_c (fun z2 => ⟨65, rf_x54 lv (nI c) (nI p) cs W fs gs E q (by omega) (by omega) ?_ (key _ rfl) 64 0 rfl (fun s hs => by omega)⟩) (fun z2 => key 0 (lb_i0 (fun y => z2 ?_)).symm)))) (fun z1 => key 0 (lb_i0 (fun y => z1 ?_)).symm)))
  · rw [ei, ej] at z1 z2
    intro s hs2
    rw [z1, z2]
    exact ⟨Iff.rfl, Iff.rfl⟩
  · rw [ei, ej]
    exact lb_ext (fun s hs2 => (y s hs2).2.2)
  · rw [ei, ej]
    exact lb_ext (fun s hs2 => (y s hs2).2.1)
end
section
theorem lb_lt24 {c : Nat} (h : c < 24) : nI c < 24 := nI_lt (b := 24) h (by decide)
theorem lb_ne24 {c : Nat} (h : c < 24) : ¬ nI c = 24 := by
  show ¬ nI c = nI 24
  rw [nI_eq (by omega) (by decide)]
  omega
/-! ===== the component: is it sound, and its states ===== -/
section
variable (lv pt : Int32) (cs : Nat → Int64) (W : Nat → Int32) (fs gs E q : Nat → Int64)
theorem cx_0 {post : Int32 → Prop} {ct x y : Int32} (h : post (lb_i (lb_x 3 x ∧ lb_x 4 y))) : wpX_isSoundCondition post (lv, ct, pt, cs, W, fs, gs, E, q) 0 x y :=
  br_f (by decide) (br_f (by decide) (br_t rfl (xa_isVariable (lb_br (fun n => lb_p0 h (fun z => n z.1)) (fun m => xa_isValue (lb_br (fun n => lb_p0 h (fun z => n z.2)) (fun m2 => lb_p1 h ⟨m, m2⟩)))))))
theorem cx_1 {post : Int32 → Prop} {ct x y : Int32} (h : post (lb_i (lb_x 3 x ∧ lb_x 3 y))) : wpX_isSoundCondition post (lv, ct, pt, cs, W, fs, gs, E, q) 1 x y :=
  br_f (by decide) (br_f (by decide) (br_f (by decide) (br_t rfl (xa_isVariable (lb_br (fun n => lb_p0 h (fun z => n z.1)) (fun m => xa_isVariable (lb_br (fun n => lb_p0 h (fun z => n z.2)) (fun m2 => lb_p1 h ⟨m, m2⟩))))))))
theorem cx_2 {post : Int32 → Prop} {c : Nat} {x y : Int32} (hc : c ≤ 24) (h : post (lb_i (lb_x c x))) : wpX_isSoundCondition post (lv, nI c, pt, cs, W, fs, gs, E, q) 2 x y :=
  br_f (by decide) (br_f (by decide) (br_f (by decide) (br_f (by decide) (br_t rfl (xa_isCond lv pt cs W fs gs E q hc (And.intro (lb_nar _) h))))))
theorem cx_82 {post : Int32 → Prop} {c : Nat} {x y : Int32} (hc : c ≤ 24) (h : post (lb_i (lb_x c x ∧ lb_x c y))) : wX_isSoundCondition_82 post x y lv (nI c) pt cs W fs gs E q := by
  unfold wX_isSoundCondition_82
  exact xa_isCond lv pt cs W fs gs E q hc (lb_br (fun n => lb_p0 h (fun z => n z.1)) (fun m => xa_isCond lv pt cs W fs gs E q hc (lb_br (fun n => lb_p0 h (fun z => n z.2)) (fun m2 => lb_p1 h ⟨m, m2⟩))))
theorem cx_3 {post : Int32 → Prop} {c : Nat} {x y : Int32} (hc : c ≤ 24) (h : post (lb_i (lb_x c x ∧ lb_x c y))) : wpX_isSoundCondition post (lv, nI c, pt, cs, W, fs, gs, E, q) 3 x y :=
  br_f (by decide) (br_f (by decide) (br_f (by decide) (br_f (by decide) (br_f (by decide) (br_t rfl (cx_82 lv pt cs W fs gs E q hc h))))))
theorem cx_4 {post : Int32 → Prop} {c : Nat} {x y : Int32} (hc : c ≤ 24) (h : post (lb_i (lb_x c x ∧ lb_x c y))) : wpX_isSoundCondition post (lv, nI c, pt, cs, W, fs, gs, E, q) 4 x y :=
  br_f (by decide) (br_f (by decide) (br_f (by decide) (br_f (by decide) (br_f (by decide) (br_f (by decide) (br_t rfl (cx_82 lv pt cs W fs gs E q hc h)))))))
theorem cx_b {post : Int32 → Prop} {ct k x y : Int32} (hk : k < 0 ∨ 4 < k) (h : post 0) : wpX_isSoundCondition post (lv, ct, pt, cs, W, fs, gs, E, q) k x y :=
  br_c (fun _ => h) (fun z => br_c (fun _ => h) (fun z2 => (hk.elim z z2).elim))
end
/-! ===== the reference ===== -/
section
variable (fp fg : Int32) (W : Nat → Int32) (E : Nat → Int64) (F G b r : Nat → Int32)
theorem cy_112 {post : Int32 → SY → Prop} {k x y : Int32} {c : Nat} {hd : Nat → Int32} {CV : Nat → Prop} (hc : c < 24) (body : ∀ n i hd', i < 64 → (∀ j, j < 64 * c → hd' j = hd j) → wY_condition_288 post (wY_condition_112 post k x y (nI c) fp fg n) k x y (nI i) (lb_i (CV i)) (nI c) fp fg hd' W E F G b r → wY_condition_112 post k x y (nI c) fp fg (n + 1) (nI i) hd' W E F G b r) (H : post (nI c) (nI (c + 1), fp, fg, lb_fi hd (64 * c) 64 (fun s => lb_i (CV s)), W, E, F, G, b, r)) : ∀ d i, i + d = 64 → wY_condition_112 post k x y (nI c) fp fg (d + 1) (nI i) (lb_fi hd (64 * c) i (fun s => lb_i (CV s))) W E F G b r := by
  intro d
  induction d with
  | zero =>
    intro i hi
    have e : i = 64 := by omega
    subst e
    refine br_t lb_64x (nm_r (nI_1 c) ?_)
    rw [nI_pred]
    exact H
  | succ d ih =>
    intro i hi
    have hl : i < 64 := by omega
    refine body (d + 1) i _ hl (fun j hj => lb_fiN (Or.inl hj)) (And.intro (lb_in2 hc hl rfl (by decide)) (nm_r (e' := lb_fi hd (64 * c) (i + 1) (fun s => lb_i (CV s))) ?_ (nm_r (nI_1 i) (ih (i + 1) (by omega)))))
    rw [lb_at2 (by omega) hl, lb_vn]
    exact lb_fiS hd (64 * c) i (fun s => lb_i (CV s))
theorem cy_85 {post : Int32 → SY → Prop} {k x y z : Int32} {c : Nat} {hd : Nat → Int32} {CV : Nat → Prop} {P Q : Prop} (hc : c < 24) (hk : lb_x 5 k) (hz : z = lb_i Q) (bad : ¬ (P ∧ Q) → post (-1) (nI c, fp, fg, hd, W, E, F, G, b, r)) (body : P ∧ Q → ∀ n i hd', i < 64 → (∀ j, j < 64 * c → hd' j = hd j) → wY_condition_288 post (wY_condition_112 post k x y (nI c) fp fg n) k x y (nI i) (lb_i (CV i)) (nI c) fp fg hd' W E F G b r → wY_condition_112 post k x y (nI c) fp fg (n + 1) (nI i) hd' W E F G b r) (H : P ∧ Q → post (nI c) (nI (c + 1), fp, fg, lb_fi hd (64 * c) 64 (fun s => lb_i (CV s)), W, E, F, G, b, r)) : wY_condition_85 post k x y (lb_i P) z (nI c) fp fg hd W E F G b r := by
  subst hz
  unfold wY_condition_85
  refine ya_inK (n := 4) (by decide) rfl (lb_br (fun n => absurd hk n) (fun _ => lb_br (fun n => bad (fun z => n z.1)) (fun p => lb_br (fun n => bad (fun z => n z.2)) (fun q => ?_))))
  have h := cy_112 fp fg W E F G b r hc (body ⟨p, q⟩) (H ⟨p, q⟩) 64 0 rfl
  rw [lb_fi0] at h
  exact ⟨65, h⟩
theorem cy_85b {post : Int32 → SY → Prop} {fc k x y x4 z : Int32} {hd : Nat → Int32} (hk : ¬ lb_x 5 k) (bad : post (-1) (fc, fp, fg, hd, W, E, F, G, b, r)) : wY_condition_85 post k x y x4 z fc fp fg hd W E F G b r := by
  unfold wY_condition_85
  exact ya_inK (n := 4) (by decide) rfl (lb_br (fun _ => bad) (fun m => absurd m hk))
theorem cy_0 {post : Int32 → SY → Prop} {x y : Int32} {c : Nat} {hd : Nat → Int32} (hc : c < 24) (bad : ¬ (lb_x 3 x ∧ lb_x 4 y) → post (-1) (nI c, fp, fg, hd, W, E, F, G, b, r)) (H : lb_x 3 x ∧ lb_x 4 y → post (nI c) (nI (c + 1), fp, fg, lb_fi hd (64 * c) 64 (fun s => lb_i (lb_va x (nI s) = y)), W, E, F, G, b, r)) : wpY_condition post (nI c, fp, fg, hd, W, E, F, G, b, r) 0 x y := by
  refine br_f (lb_ne24 hc) (br_t rfl ?_)
  unfold wY_condition_21
  refine ya_inK (n := 2) (by decide) rfl ?_
  refine br_t rfl ?_
  refine ya_inK (n := 3) (by decide) rfl ?_
  refine cy_85 fp fg W E F G b r (CV := fun s => lb_va x (nI s) = y) hc ⟨0, by omega, rfl⟩ rfl bad (fun _ n i hd' hi _ h => br_f (lb_64 hi) (br_t rfl (br_c (fun e => ?_) (fun e => ?_)))) H
  · rw [lb_i1 (P := lb_va x (nI i) = y) e] at h
    exact h
  · rw [lb_i0 (P := lb_va x (nI i) = y) e] at h
    exact h
theorem cy_1 {post : Int32 → SY → Prop} {x y : Int32} {c : Nat} {hd : Nat → Int32} (hc : c < 24) (bad : ¬ (lb_x 3 x ∧ lb_x 3 y) → post (-1) (nI c, fp, fg, hd, W, E, F, G, b, r)) (H : lb_x 3 x ∧ lb_x 3 y → post (nI c) (nI (c + 1), fp, fg, lb_fi hd (64 * c) 64 (fun s => lb_i (¬ lb_va y (nI s) < lb_va x (nI s))), W, E, F, G, b, r)) : wpY_condition post (nI c, fp, fg, hd, W, E, F, G, b, r) 1 x y := by
  refine br_f (lb_ne24 hc) (br_f (by decide) (br_t rfl ?_))
  unfold wY_condition_21
  refine ya_inK (n := 2) (by decide) rfl ?_
  refine br_f (by decide) (br_t rfl ?_)
  refine ya_inK (n := 2) (by decide) rfl ?_
  refine cy_85 fp fg W E F G b r (CV := fun s => ¬ lb_va y (nI s) < lb_va x (nI s)) hc ⟨1, by omega, rfl⟩ rfl bad (fun _ n i hd' hi _ h => br_f (lb_64 hi) (br_f (by decide) (br_t rfl (br_c (fun e => ?_) (fun e => ?_))))) H
  · rw [lb_i0 (fun z => z e)] at h
    exact h
  · rw [lb_i1 (P := ¬ lb_va y (nI i) < lb_va x (nI i)) e] at h
    exact h
theorem cy_2 {post : Int32 → SY → Prop} {x y : Int32} {c : Nat} {hd : Nat → Int32} {cs : Nat → Int64} (hc : c < 24) (RC : ∀ i s, i < 24 → s < 64 → hd (64 * i + s) = lb_i (lb_b (cs i) s)) (bad : ¬ (lb_x c x ∧ True) → post (-1) (nI c, fp, fg, hd, W, E, F, G, b, r)) (H : lb_x c x ∧ True → post (nI c) (nI (c + 1), fp, fg, lb_fi hd (64 * c) 64 (fun s => lb_i (¬ lb_b (cs x.toNatClampNeg) s)), W, E, F, G, b, r)) : wpY_condition post (nI c, fp, fg, hd, W, E, F, G, b, r) 2 x y := by
  refine br_f (lb_ne24 hc) (br_f (by decide) (br_f (by decide) (ya_isCond fp fg hd W E F G b r (by omega) ?_)))
  refine br_f (by decide) (br_f (by decide) (br_t rfl ?_))
  refine cy_85 fp fg W E F G b r (CV := fun s => ¬ lb_b (cs x.toNatClampNeg) s) hc ⟨2, by omega, rfl⟩ (lb_i1 True.intro).symm bad (fun ok n i hd' hi hh h => ?_) H
  obtain ⟨⟨j, hj, ej⟩, _⟩ := ok
  subst ej
  have ejj : (nI j).toNatClampNeg = j := lb_cl (by omega)
  have eh : hd' ((64 * nI j) + nI i).toNatClampNeg = lb_i (lb_b (cs (nI j).toNatClampNeg) i) := by rw [lb_at2 (by omega) hi, hh _ (by omega), ejj, RC j i (by omega) hi]
  refine br_f (lb_64 hi) (br_f (by decide) (br_f (by decide) (br_t rfl (And.intro (lb_in2 (n := 24) (by omega) hi rfl (by decide)) (lb_brE eh (fun e => ?_) (fun e => ?_))))))
  · rw [lb_i1 e] at h
    exact h
  · rw [lb_i0 (fun z => z e)] at h
    exact h
theorem cy_3 {post : Int32 → SY → Prop} {x y : Int32} {c : Nat} {hd : Nat → Int32} {cs : Nat → Int64} (hc : c < 24) (RC : ∀ i s, i < 24 → s < 64 → hd (64 * i + s) = lb_i (lb_b (cs i) s)) (bad : ¬ (lb_x c x ∧ lb_x c y) → post (-1) (nI c, fp, fg, hd, W, E, F, G, b, r)) (H : lb_x c x ∧ lb_x c y → post (nI c) (nI (c + 1), fp, fg, lb_fi hd (64 * c) 64 (fun s => lb_i (lb_b (cs x.toNatClampNeg) s ∧ lb_b (cs y.toNatClampNeg) s)), W, E, F, G, b, r)) : wpY_condition post (nI c, fp, fg, hd, W, E, F, G, b, r) 3 x y := by
  have key : ∀ z, z = lb_i (lb_x c y) → wY_condition_85 post 3 x y (lb_i (lb_x c x)) z (nI c) fp fg hd W E F G b r := by
    intro z hz
    refine cy_85 fp fg W E F G b r (CV := fun s => lb_b (cs x.toNatClampNeg) s ∧ lb_b (cs y.toNatClampNeg) s) hc ⟨3, by omega, rfl⟩ hz bad (fun ok n i hd' hi hh h => ?_) H
    obtain ⟨⟨j, hj, ej⟩, ⟨l, hl, el⟩⟩ := ok
    subst ej el
    have ejj : (nI j).toNatClampNeg = j := lb_cl (by omega)
    have ell : (nI l).toNatClampNeg = l := lb_cl (by omega)
    have eh : hd' ((64 * nI j) + nI i).toNatClampNeg = lb_i (lb_b (cs (nI j).toNatClampNeg) i) := by rw [lb_at2 (by omega) hi, hh _ (by omega), ejj, RC j i (by omega) hi]
    have el : hd' ((64 * nI l) + nI i).toNatClampNeg = lb_i (lb_b (cs (nI l).toNatClampNeg) i) := by rw [lb_at2 (by omega) hi, hh _ (by omega), ell, RC l i (by omega) hi]
    refine br_f (lb_64 hi) (br_f (by decide) (br_f (by decide) (br_f (by decide) (br_t rfl (And.intro (lb_in2 (n := 24) (by omega) hi rfl (by decide)) (lb_brE eh (fun e => ?_) (fun e => And.intro (lb_in2 (n := 24) (by omega) hi rfl (by decide)) (lb_brE el (fun e2 => ?_) (fun e2 => ?_)))))))))
    · rw [lb_i0 (fun z => e z.1)] at h
      exact h
    · rw [lb_i0 (fun z => e2 z.2)] at h
      exact h
    · rw [lb_i1 ⟨e, e2⟩] at h
      exact h
  refine br_f (lb_ne24 hc) (br_f (by decide) (br_f (by decide) (ya_isCond fp fg hd W E F G b r (by omega) ?_)))
  refine br_f (by decide) (br_f (by decide) (br_f (by decide) (ya_isCond fp fg hd W E F G b r (by omega) (lb_br (fun n => key 0 (lb_i0 n).symm) (fun m => key 1 (lb_i1 m).symm)))))
theorem cy_4 {post : Int32 → SY → Prop} {x y : Int32} {c : Nat} {hd : Nat → Int32} {cs : Nat → Int64} (hc : c < 24) (RC : ∀ i s, i < 24 → s < 64 → hd (64 * i + s) = lb_i (lb_b (cs i) s)) (bad : ¬ (lb_x c x ∧ lb_x c y) → post (-1) (nI c, fp, fg, hd, W, E, F, G, b, r)) (H : lb_x c x ∧ lb_x c y → post (nI c) (nI (c + 1), fp, fg, lb_fi hd (64 * c) 64 (fun s => lb_i (lb_b (cs x.toNatClampNeg) s ∨ lb_b (cs y.toNatClampNeg) s)), W, E, F, G, b, r)) : wpY_condition post (nI c, fp, fg, hd, W, E, F, G, b, r) 4 x y := by
  have key : ∀ z, z = lb_i (lb_x c y) → wY_condition_85 post 4 x y (lb_i (lb_x c x)) z (nI c) fp fg hd W E F G b r := by
    intro z hz
    refine cy_85 fp fg W E F G b r (CV := fun s => lb_b (cs x.toNatClampNeg) s ∨ lb_b (cs y.toNatClampNeg) s) hc ⟨4, by omega, rfl⟩ hz bad (fun ok n i hd' hi hh h => ?_) H
    obtain ⟨⟨j, hj, ej⟩, ⟨l, hl, el⟩⟩ := ok
    subst ej el
    have ejj : (nI j).toNatClampNeg = j := lb_cl (by omega)
    have ell : (nI l).toNatClampNeg = l := lb_cl (by omega)
    have eh : hd' ((64 * nI j) + nI i).toNatClampNeg = lb_i (lb_b (cs (nI j).toNatClampNeg) i) := by rw [lb_at2 (by omega) hi, hh _ (by omega), ejj, RC j i (by omega) hi]
    have el : hd' ((64 * nI l) + nI i).toNatClampNeg = lb_i (lb_b (cs (nI l).toNatClampNeg) i) := by rw [lb_at2 (by omega) hi, hh _ (by omega), ell, RC l i (by omega) hi]
    refine br_f (lb_64 hi) (br_f (by decide) (br_f (by decide) (br_f (by decide) (br_f (by decide) (And.intro (lb_in2 (n := 24) (by omega) hi rfl (by decide)) (lb_brE eh (fun e => And.intro (lb_in2 (n := 24) (by omega) hi rfl (by decide)) (lb_brE el (fun e2 => ?_) (fun e2 => ?_))) (fun e => ?_)))))))
    · rw [lb_i0 (fun z => z.elim e e2)] at h
      exact h
    · rw [lb_i1 (Or.inr e2)] at h
      exact h
    · rw [lb_i1 (Or.inl e)] at h
      exact h
  refine br_f (lb_ne24 hc) (br_f (by decide) (br_f (by decide) (ya_isCond fp fg hd W E F G b r (by omega) ?_)))
  refine br_f (by decide) (br_f (by decide) (br_f (by decide) (ya_isCond fp fg hd W E F G b r (by omega) (lb_br (fun n => key 0 (lb_i0 n).symm) (fun m => key 1 (lb_i1 m).symm)))))
theorem cy_b {post : Int32 → SY → Prop} {k x y : Int32} {c : Nat} {hd : Nat → Int32} (hc : c < 24) (hk : k < 0 ∨ 4 < k) (bad : post (-1) (nI c, fp, fg, hd, W, E, F, G, b, r)) : wpY_condition post (nI c, fp, fg, hd, W, E, F, G, b, r) k x y := by
  have n5 : ¬ lb_x 5 k := fun z => hk.elim (lb_x0 z (by decide)) (lb_gt (n := 4) z (by decide))
  have n0 : ¬ k = 0 := fun z => n5 ⟨0, by omega, z⟩
  have n1 : ¬ k = 1 := fun z => n5 ⟨1, by omega, z⟩
  have n2 : ¬ k = 2 := fun z => n5 ⟨2, by omega, z⟩
  refine br_f (lb_ne24 hc) (br_f n0 (br_f n1 (ya_isCond fp fg hd W E F G b r (by omega) ?_)))
  exact br_f n0 (br_f n1 (br_f n2 (ya_isCond fp fg hd W E F G b r (by omega) (lb_br (fun n => cy_85b fp fg W E F G b r n5 bad) (fun m => cy_85b fp fg W E F G b r n5 bad)))))
end
theorem cd_fin {k c p : Nat} {lv g : Int32} {cs : Nat → Int64} {W : Nat → Int32} {fs gs E q : Nat → Int64} {hd F G b r : Nat → Int32} {w : Int64} {CV : Nat → Prop} (hc : c < 24) (hp : p ≤ 32) (RC : ∀ i s, i < 24 → s < 64 → hd (64 * i + s) = lb_i (lb_b (cs i) s)) (RF : ∀ i s, i < 32 → s < 64 → F (64 * i + s) = lb_i (lb_b (fs i) s)) (RG : ∀ i s, i < 32 → s < 64 → G (64 * i + s) = lb_i (lb_b (gs i) s)) (hw : ∀ s, s < 64 → (lb_b w s ↔ CV s)) : i_Rel k (lv, nI (c + 1), nI p, vp_updL cs c w, W, fs, gs, E, q) (nI (c + 1), nI p, g, lb_fi hd (64 * c) 64 (fun s => lb_i (CV s)), W, E, F, G, b, r) := by
  refine ⟨lv, c + 1, p, vp_updL cs c w, W, fs, gs, E, q, g, lb_fi hd (64 * c) 64 (fun s => lb_i (CV s)), F, G, b, r, by omega, hp, rfl, rfl, ?_, RF, RG⟩
  intro i s hi hs
  by_cases e : i = c
  · subst e
    rw [lb_fiI hs, pk_uLs, lb_ic (hw s hs)]
  · rw [lb_fiN (by omega), pk_uLn e]
    exact RC i s hi hs
theorem i_vc_condition {k : Nat} {u : SX} {v : SY} (I : i_Rel k u v) (hk : k + 5 ≤ 2560) (v1 : Int32) (v2 : Int32) (v3 : Int32) : wpX_condition (fun r u' => wpY_condition (fun r' v' => r' = r ∧ i_Rel (k + 5) u' v') v v1 v2 v3) u v1 v2 v3 := by
  have J : i_Rel (k + 5) u v := I
  obtain ⟨lv, c, p, cs, W, fs, gs, E, q, g, hd, F, G, b, r, hc, hp, eu, ev, RC, RF, RG⟩ := I
  subst eu ev
  by_cases h24 : c = 24
  · subst h24
    exact br_f (nI_nlt (a := 24) (b := 24) (by decide) (by decide)) (br_t rfl ⟨rfl, J⟩)
  have hc : c < 24 := by omega
  have vc : vp_in (nI c) 24 := lb_vi hc (by decide)
  refine br_t (lb_lt24 hc) ?_
  rcases pk_ix v1 (n := 5) (by decide) with hb | hb | ⟨j, hj, ej⟩
  · exact cx_b lv (nI p) cs W fs gs E q (Or.inl hb) (br_t rfl (cy_b (nI p) g W E F G b r hc (Or.inl hb) ⟨rfl, J⟩))
  · have hb : 4 < v1 := Int32.lt_of_lt_of_le (show (4 : Int32) < nI 5 by decide) hb
    exact cx_b lv (nI p) cs W fs gs E q (Or.inr hb) (br_t rfl (cy_b (nI p) g W E F G b r hc (Or.inr hb) ⟨rfl, J⟩))
  · have hj : j = 0 ∨ j = 1 ∨ j = 2 ∨ j = 3 ∨ j = 4 := by omega
    rcases hj with h | h | h | h | h <;> subst h <;> subst ej
    · refine cx_0 lv (nI p) cs W fs gs E q (lb_br (fun n => cy_0 (nI p) g W E F G b r hc (fun _ => ⟨rfl, J⟩) (fun m => absurd m n)) (fun ok => ?_))
      exact br_f (by decide) (br_f (by decide) (br_t rfl (xa_swv (fun w hw => And.intro vc (nm_r (lb_uL (by omega)) (nm_r (nI_1 c) (cy_0 (nI p) g W E F G b r hc (fun n => absurd ok n) (fun _ => ⟨rfl, cd_fin hc hp RC RF RG hw⟩))))))))
    · refine cx_1 lv (nI p) cs W fs gs E q (lb_br (fun n => cy_1 (nI p) g W E F G b r hc (fun _ => ⟨rfl, J⟩) (fun m => absurd m n)) (fun ok => ?_))
      exact br_f (by decide) (br_f (by decide) (br_f (by decide) (br_t rfl (xa_sam (fun w hw => And.intro vc (nm_r (lb_uL (by omega)) (nm_r (nI_1 c) (cy_1 (nI p) g W E F G b r hc (fun n => absurd ok n) (fun _ => ⟨rfl, cd_fin hc hp RC RF RG hw⟩)))))))))
    · refine cx_2 lv (nI p) cs W fs gs E q (by omega) (lb_br (fun n => cy_2 (nI p) g W E F G b r hc RC (fun _ => ⟨rfl, J⟩) (fun m => absurd m.1 n)) (fun ok => ?_))
      have v2i : vp_in v2 24 := by
        obtain ⟨i, hi, ei⟩ := ok
        subst ei
        exact lb_vi (by omega) (by decide)
      exact br_f (by decide) (br_f (by decide) (br_f (by decide) (br_f (by decide) (br_t rfl (And.intro v2i (And.intro vc (nm_r (lb_uL (by omega)) (nm_r (nI_1 c) (cy_2 (nI p) g W E F G b r hc RC (fun n => absurd ⟨ok, True.intro⟩ n) (fun _ => ⟨rfl, cd_fin hc hp RC RF RG (fun s hs => lb_not _ hs)⟩))))))))))
    · refine cx_3 lv (nI p) cs W fs gs E q (by omega) (lb_br (fun n => cy_3 (nI p) g W E F G b r hc RC (fun _ => ⟨rfl, J⟩) (fun m => absurd m n)) (fun ok => ?_))
      have v2i : vp_in v2 24 := by
        obtain ⟨⟨i, hi, ei⟩, _⟩ := ok
        subst ei
        exact lb_vi (by omega) (by decide)
      have v3i : vp_in v3 24 := by
        obtain ⟨_, ⟨i, hi, ei⟩⟩ := ok
        subst ei
        exact lb_vi (by omega) (by decide)
      exact br_f (by decide) (br_f (by decide) (br_f (by decide) (br_f (by decide) (br_f (by decide) (br_t rfl (And.intro v2i (And.intro v3i (And.intro vc (nm_r (lb_uL (by omega)) (nm_r (nI_1 c) (cy_3 (nI p) g W E F G b r hc RC (fun n => absurd ok n) (fun _ => ⟨rfl, cd_fin hc hp RC RF RG (fun s hs => lb_and _ _ s)⟩))))))))))))
    · refine cx_4 lv (nI p) cs W fs gs E q (by omega) (lb_br (fun n => cy_4 (nI p) g W E F G b r hc RC (fun _ => ⟨rfl, J⟩) (fun m => absurd m n)) (fun ok => ?_))
      have v2i : vp_in v2 24 := by
        obtain ⟨⟨i, hi, ei⟩, _⟩ := ok
        subst ei
        exact lb_vi (by omega) (by decide)
      have v3i : vp_in v3 24 := by
        obtain ⟨_, ⟨i, hi, ei⟩⟩ := ok
        subst ei
        exact lb_vi (by omega) (by decide)
      exact br_f (by decide) (br_t (by decide) (And.intro v2i (And.intro v3i (And.intro vc (nm_r (lb_uL (by omega)) (nm_r (nI_1 c) (cy_4 (nI p) g W E F G b r hc RC (fun n => absurd ok n) (fun _ => ⟨rfl, cd_fin hc hp RC RF RG (fun s hs => lb_or _ _ s)⟩))))))))
end
section
/-! ===== the component: is it sound, its weight ===== -/
section
variable (lv : Int32) (cs : Nat → Int64) (W : Nat → Int32) (fs gs E q : Nat → Int64)
theorem px_0 {post : Int32 → Prop} {ct pt x y z : Int32} (h : post (lb_i True)) : wpX_isSoundProgram post (lv, ct, pt, cs, W, fs, gs, E, q) 0 x y z := br_f (by decide) (br_f (by decide) (br_t rfl (lb_p1 h True.intro)))
theorem px_1 {post : Int32 → Prop} {ct pt x y z : Int32} (h : post (lb_i True)) : wpX_isSoundProgram post (lv, ct, pt, cs, W, fs, gs, E, q) 1 x y z := br_f (by decide) (br_f (by decide) (br_f (by decide) (br_t rfl (lb_p1 h True.intro))))
theorem px_2 {post : Int32 → Prop} {ct pt x y z : Int32} (h : post (lb_i (lb_x 3 x ∧ lb_x 4 y ∧ lb_x 4 z))) : wpX_isSoundProgram post (lv, ct, pt, cs, W, fs, gs, E, q) 2 x y z := br_f (by decide) (br_f (by decide) (br_f (by decide) (br_f (by decide) (br_t rfl (xa_isVariable (lb_br (fun n => lb_p0 h (fun z => n z.1)) (fun m => xa_isValue (lb_br (fun n => lb_p0 h (fun z => n z.2.1)) (fun m2 => xa_isValue (lb_br (fun n => lb_p0 h (fun z => n z.2.2)) (fun m3 => lb_p1 h ⟨m, m2, m3⟩)))))))))))
theorem px_3 {post : Int32 → Prop} {ct pt x y z : Int32} (h : post (lb_i (lb_x 3 x))) : wpX_isSoundProgram post (lv, ct, pt, cs, W, fs, gs, E, q) 3 x y z := br_f (by decide) (br_f (by decide) (br_f (by decide) (br_f (by decide) (br_f (by decide) (br_t rfl (xa_isVariable (And.intro (lb_nar _) h)))))))
theorem px_91 {post : Int32 → Prop} {pt x : Int32} {c : Nat} (hc : c ≤ 24) (h : post (lb_i (lb_x c x))) : wX_isSoundProgram_91 post x lv (nI c) pt cs W fs gs E q := by
  unfold wX_isSoundProgram_91
  exact xa_isCond lv pt cs W fs gs E q hc (And.intro (lb_nar _) h)
theorem px_97 {post : Int32 → Prop} {ct x y : Int32} {p : Nat} (hp : p ≤ 32) (h : post (lb_i (lb_x p x ∧ lb_x p y))) : wX_isSoundProgram_97 post x y lv ct (nI p) cs W fs gs E q := by
  unfold wX_isSoundProgram_97
  exact xa_isProg lv ct cs W fs gs E q hp (lb_br (fun n => lb_p0 h (fun z => n z.1)) (fun m => xa_isProg lv ct cs W fs gs E q hp (lb_br (fun n => lb_p0 h (fun z => n z.2)) (fun m2 => lb_p1 h ⟨m, m2⟩))))
theorem px_4 {post : Int32 → Prop} {pt x y z : Int32} {c : Nat} (hc : c ≤ 24) (h : post (lb_i (lb_x c x))) : wpX_isSoundProgram post (lv, nI c, pt, cs, W, fs, gs, E, q) 4 x y z := br_f (by decide) (br_f (by decide) (br_f (by decide) (br_f (by decide) (br_f (by decide) (br_f (by decide) (br_t rfl (px_91 lv cs W fs gs E q hc h)))))))
theorem px_5 {post : Int32 → Prop} {pt x y z : Int32} {c : Nat} (hc : c ≤ 24) (h : post (lb_i (lb_x c x))) : wpX_isSoundProgram post (lv, nI c, pt, cs, W, fs, gs, E, q) 5 x y z := br_f (by decide) (br_f (by decide) (br_f (by decide) (br_f (by decide) (br_f (by decide) (br_f (by decide) (br_f (by decide) (br_t rfl (px_91 lv cs W fs gs E q hc h))))))))
theorem px_6 {post : Int32 → Prop} {ct x y z : Int32} {p : Nat} (hp : p ≤ 32) (h : post (lb_i (lb_x p x ∧ lb_x p y))) : wpX_isSoundProgram post (lv, ct, nI p, cs, W, fs, gs, E, q) 6 x y z := br_f (by decide) (br_f (by decide) (br_f (by decide) (br_f (by decide) (br_f (by decide) (br_f (by decide) (br_f (by decide) (br_f (by decide) (br_t rfl (px_97 lv cs W fs gs E q hp h)))))))))
theorem px_7 {post : Int32 → Prop} {x y z : Int32} {c p : Nat} (hc : c ≤ 24) (hp : p ≤ 32) (h : post (lb_i (lb_x c x ∧ lb_x p y ∧ lb_x p z))) : wpX_isSoundProgram post (lv, nI c, nI p, cs, W, fs, gs, E, q) 7 x y z := br_f (by decide) (br_f (by decide) (br_f (by decide) (br_f (by decide) (br_f (by decide) (br_f (by decide) (br_f (by decide) (br_f (by decide) (br_f (by decide) (br_t rfl (xa_isCond lv (nI p) cs W fs gs E q hc (lb_br (fun n => lb_p0 h (fun z => n z.1)) (fun m => xa_isProg lv (nI c) cs W fs gs E q hp (lb_br (fun n => lb_p0 h (fun z => n z.2.1)) (fun m2 => xa_isProg lv (nI c) cs W fs gs E q hp (lb_br (fun n => lb_p0 h (fun z => n z.2.2)) (fun m3 => lb_p1 h ⟨m, m2, m3⟩))))))))))))))))
theorem px_8 {post : Int32 → Prop} {ct x y z : Int32} {p : Nat} (hp : p ≤ 32) (h : post (lb_i (lb_x p x ∧ lb_x p y))) : wpX_isSoundProgram post (lv, ct, nI p, cs, W, fs, gs, E, q) 8 x y z := br_f (by decide) (br_f (by decide) (br_f (by decide) (br_f (by decide) (br_f (by decide) (br_f (by decide) (br_f (by decide) (br_f (by decide) (br_f (by decide) (br_f (by decide) (br_t rfl (px_97 lv cs W fs gs E q hp h)))))))))))
theorem px_9 {post : Int32 → Prop} {x y z : Int32} {c p : Nat} (hc : c ≤ 24) (hp : p ≤ 32) (h : post (lb_i (lb_x c x ∧ lb_x p y))) : wpX_isSoundProgram post (lv, nI c, nI p, cs, W, fs, gs, E, q) 9 x y z := br_f (by decide) (br_f (by decide) (br_f (by decide) (br_f (by decide) (br_f (by decide) (br_f (by decide) (br_f (by decide) (br_f (by decide) (br_f (by decide) (br_f (by decide) (br_f (by decide) (br_t rfl (xa_isCond lv (nI p) cs W fs gs E q hc (lb_br (fun n => lb_p0 h (fun z => n z.1)) (fun m => xa_isProg lv (nI c) cs W fs gs E q hp (lb_br (fun n => lb_p0 h (fun z => n z.2)) (fun m2 => lb_p1 h ⟨m, m2⟩))))))))))))))))
theorem px_b {post : Int32 → Prop} {ct pt k x y z : Int32} (hk : k < 0 ∨ 9 < k) (h : post 0) : wpX_isSoundProgram post (lv, ct, pt, cs, W, fs, gs, E, q) k x y z := br_c (fun _ => h) (fun z => br_c (fun _ => h) (fun z2 => (hk.elim z z2).elim))
end
/-! ===== the reference: does it fit ===== -/
section
variable (fg : Int32) (hd W : Nat → Int32) (E : Nat → Int64) (F G b r : Nat → Int32)
theorem py_0 {post : Int32 → Prop} {fc fp x y z : Int32} (h : post (lb_i True)) : wpY_fits post (fc, fp, fg, hd, W, E, F, G, b, r) 0 x y z := br_f (by decide) (br_f (by decide) (br_f (by decide) (br_f (by decide) (br_f (by decide) (br_f (by decide) (br_f (by decide) (br_t (by decide) (lb_p1 h True.intro))))))))
theorem py_1 {post : Int32 → Prop} {fc fp x y z : Int32} (h : post (lb_i True)) : wpY_fits post (fc, fp, fg, hd, W, E, F, G, b, r) 1 x y z := br_f (by decide) (br_f (by decide) (br_f (by decide) (br_f (by decide) (br_f (by decide) (br_f (by decide) (br_f (by decide) (br_t (by decide) (lb_p1 h True.intro))))))))
theorem py_2 {post : Int32 → Prop} {fc fp x y z : Int32} (h : post (lb_i (lb_x 3 x ∧ lb_x 4 y ∧ lb_x 4 z))) : wpY_fits post (fc, fp, fg, hd, W, E, F, G, b, r) 2 x y z := br_t rfl (ya_inK (n := 2) (by decide) rfl (lb_br (fun n => lb_p0 h (fun z => n z.1)) (fun m => ya_inK (n := 3) (by decide) rfl (lb_br (fun n => lb_p0 h (fun z => n z.2.1)) (fun m2 => ya_inK (n := 3) (by decide) rfl (lb_br (fun n => lb_p0 h (fun z => n z.2.2)) (fun m3 => lb_p1 h ⟨m, m2, m3⟩)))))))
theorem py_3 {post : Int32 → Prop} {fc fp x y z : Int32} (h : post (lb_i (lb_x 3 x))) : wpY_fits post (fc, fp, fg, hd, W, E, F, G, b, r) 3 x y z := br_f (by decide) (br_t rfl (ya_inK (n := 2) (by decide) rfl (And.intro (lb_nar _) h)))
theorem py_65 {post : Int32 → Prop} {fp x : Int32} {c : Nat} (hc : c ≤ 24) (h : post (lb_i (lb_x c x))) : wY_fits_65 post x (nI c) fp fg hd W E F G b r := by
  unfold wY_fits_65
  exact ya_isCond fp fg hd W E F G b r hc (And.intro (lb_nar _) h)
theorem py_83 {post : Int32 → Prop} {fc x y : Int32} {p : Nat} (hp : p ≤ 32) (h : post (lb_i (lb_x p x ∧ lb_x p y))) : wY_fits_83 post x y fc (nI p) fg hd W E F G b r := by
  unfold wY_fits_83
  exact ya_isProg fc fg hd W E F G b r hp (lb_br (fun n => lb_p0 h (fun z => n z.1)) (fun m => ya_isProg fc fg hd W E F G b r hp (lb_br (fun n => lb_p0 h (fun z => n z.2)) (fun m2 => lb_p1 h ⟨m, m2⟩))))
theorem py_4 {post : Int32 → Prop} {fp x y z : Int32} {c : Nat} (hc : c ≤ 24) (h : post (lb_i (lb_x c x))) : wpY_fits post (nI c, fp, fg, hd, W, E, F, G, b, r) 4 x y z := br_f (by decide) (br_f (by decide) (br_t rfl (py_65 fg hd W E F G b r hc h)))
theorem py_5 {post : Int32 → Prop} {fp x y z : Int32} {c : Nat} (hc : c ≤ 24) (h : post (lb_i (lb_x c x))) : wpY_fits post (nI c, fp, fg, hd, W, E, F, G, b, r) 5 x y z := br_f (by decide) (br_f (by decide) (br_f (by decide) (br_t rfl (py_65 fg hd W E F G b r hc h))))
theorem py_6 {post : Int32 → Prop} {fc x y z : Int32} {p : Nat} (hp : p ≤ 32) (h : post (lb_i (lb_x p x ∧ lb_x p y))) : wpY_fits post (fc, nI p, fg, hd, W, E, F, G, b, r) 6 x y z := br_f (by decide) (br_f (by decide) (br_f (by decide) (br_f (by decide) (br_t rfl (py_83 fg hd W E F G b r hp h)))))
theorem py_8 {post : Int32 → Prop} {fc x y z : Int32} {p : Nat} (hp : p ≤ 32) (h : post (lb_i (lb_x p x ∧ lb_x p y))) : wpY_fits post (fc, nI p, fg, hd, W, E, F, G, b, r) 8 x y z := br_f (by decide) (br_f (by decide) (br_f (by decide) (br_f (by decide) (br_f (by decide) (br_t rfl (py_83 fg hd W E F G b r hp h))))))
theorem py_7 {post : Int32 → Prop} {x y z : Int32} {c p : Nat} (hc : c ≤ 24) (hp : p ≤ 32) (h : post (lb_i (lb_x c x ∧ lb_x p y ∧ lb_x p z))) : wpY_fits post (nI c, nI p, fg, hd, W, E, F, G, b, r) 7 x y z := br_f (by decide) (br_f (by decide) (br_f (by decide) (br_f (by decide) (br_f (by decide) (br_f (by decide) (br_t rfl (ya_isCond (nI p) fg hd W E F G b r hc (lb_br (fun n => lb_p0 h (fun z => n z.1)) (fun m => ya_isProg (nI c) fg hd W E F G b r hp (lb_br (fun n => lb_p0 h (fun z => n z.2.1)) (fun m2 => ya_isProg (nI c) fg hd W E F G b r hp (lb_br (fun n => lb_p0 h (fun z => n z.2.2)) (fun m3 => lb_p1 h ⟨m, m2, m3⟩)))))))))))))
theorem py_9 {post : Int32 → Prop} {x y z : Int32} {c p : Nat} (hc : c ≤ 24) (hp : p ≤ 32) (h : post (lb_i (lb_x c x ∧ lb_x p y))) : wpY_fits post (nI c, nI p, fg, hd, W, E, F, G, b, r) 9 x y z := br_f (by decide) (br_f (by decide) (br_f (by decide) (br_f (by decide) (br_f (by decide) (br_f (by decide) (br_f (by decide) (br_f (by decide) (ya_isCond (nI p) fg hd W E F G b r hc (lb_br (fun n => lb_p0 h (fun z => n z.1)) (fun m => ya_isProg (nI c) fg hd W E F G b r hp (lb_br (fun n => lb_p0 h (fun z => n z.2)) (fun m2 => lb_p1 h ⟨m, m2⟩))))))))))))
end
theorem lb_lt32 {c : Nat} (h : c < 32) : nI c < 32 := nI_lt (b := 32) h (by decide)
theorem lb_ne32 {c : Nat} (h : c < 32) : ¬ nI c = 32 := by
  show ¬ nI c = nI 32
  rw [nI_eq (by omega) (by decide)]
  omega
/-- the chain of tests by which the reference reckons the weight -/
def py_C (post : Int32 → SY → Prop) (k x y z : Int32) (fc fp fg : Int32) (hd W : Nat → Int32) (E : Nat → Int64) (F G b r : Nat → Int32) : Prop :=
  ((k = 6 → (wY_program_52 post k x y z 1 fc fp fg hd W E F G b r)) ∧ (¬ k = 6 → (((k = 8 → (wY_program_52 post k x y z 1 fc fp fg hd W E F G b r)) ∧ (¬ k = 8 → (wY_program_63 post k x y z 1 fc fp fg hd W E F G b r))))))
section
variable (fc fg : Int32) (hd W : Nat → Int32) (E : Nat → Int64) (F G b r : Nat → Int32)
theorem py_top {post : Int32 → SY → Prop} {k x y z w : Int32} {p : Nat} {OK : Prop} {EV : Nat → Int64} {FV GV : Nat → Prop} (hp : p < 32) (hk : lb_x 10 k) (hfit : ∀ post' : Int32 → Prop, post' (lb_i OK) → wpY_fits post' (fc, nI p, fg, hd, W, E, F, G, b, r) k x y z) (hch : OK → wY_program_98 post k x y z w fc (nI p) fg hd W E F G b r → py_C post k x y z fc (nI p) fg hd W E F G b r) (bad : ¬ OK → post (-1) (fc, nI p, fg, hd, W, E, F, G, b, r)) (full : OK → ¬ w ≤ 20 → post (-2) (fc, nI p, fg, hd, W, E, F, G, b, r)) (B : OK → w ≤ 20 → yp_B post k x y z p fc hd (upd W p w) E F G EV FV GV) (H : OK → w ≤ 20 → ∀ b r g, post (nI p) (fc, nI (p + 1), g, hd, upd W p w, lb_fl E (64 * p) 64 EV, lb_fi F (64 * p) 64 (fun s => lb_i (FV s)), lb_fi G (64 * p) 64 (fun s => lb_i (GV s)), b, r)) : wpY_program post (fc, nI p, fg, hd, W, E, F, G, b, r) k x y z := by
  refine br_f (lb_ne32 hp) (ya_inK (n := 9) (by decide) rfl (lb_br (fun n => absurd hk n) (fun _ => hfit _ (lb_br (fun n => bad n) (fun ok => hch ok ?_)))))
  by_cases hw : w ≤ 20
  · exact yp_98 fc hd W E F G hp hw (B ok hw) (H ok hw)
  · exact br_f hw (full ok hw)
theorem py_bad {post : Int32 → SY → Prop} {k x y z : Int32} {p : Nat} (hp : p < 32) (hk : ¬ lb_x 10 k) (bad : post (-1) (fc, nI p, fg, hd, W, E, F, G, b, r)) : wpY_program post (fc, nI p, fg, hd, W, E, F, G, b, r) k x y z := br_f (lb_ne32 hp) (ya_inK (n := 9) (by decide) rfl (lb_br (fun _ => bad) (fun m => absurd m hk)))
theorem py_c5 {post : Int32 → SY → Prop} {k x y z fp : Int32} (h6 : ¬ k = 6) (h8 : ¬ k = 8) (hl : k < 6) (h7 : ¬ k = 7) (H : wY_program_98 post k x y z 1 fc fp fg hd W E F G b r) : py_C post k x y z fc fp fg hd W E F G b r := br_f h6 (br_f h8 (br_t hl (br_f h7 H)))
theorem py_c6 {post : Int32 → SY → Prop} {x y z fp : Int32} (vx : vp_in x 32) (vy : vp_in y 32) (H : wY_program_98 post 6 x y z ((1 + W x.toNatClampNeg) + W y.toNatClampNeg) fc fp fg hd W E F G b r) : py_C post 6 x y z fc fp fg hd W E F G b r := br_t rfl (And.intro vx (nm_e (br_f (by decide) (And.intro vy (nm_e (br_f (by decide) H))))))
theorem py_c8 {post : Int32 → SY → Prop} {x y z fp : Int32} (vx : vp_in x 32) (vy : vp_in y 32) (H : wY_program_98 post 8 x y z ((1 + W x.toNatClampNeg) + W y.toNatClampNeg) fc fp fg hd W E F G b r) : py_C post 8 x y z fc fp fg hd W E F G b r := br_f (by decide) (br_t rfl (And.intro vx (nm_e (br_f (by decide) (And.intro vy (nm_e (br_f (by decide) H)))))))
theorem py_c7 {post : Int32 → SY → Prop} {x y z fp : Int32} (vy : vp_in y 32) (vz : vp_in z 32) (H : wY_program_98 post 7 x y z ((1 + W y.toNatClampNeg) + W z.toNatClampNeg) fc fp fg hd W E F G b r) : py_C post 7 x y z fc fp fg hd W E F G b r := br_f (by decide) (br_f (by decide) (br_f (by decide) (And.intro vy (nm_e (br_t rfl (And.intro vz (nm_e H)))))))
theorem py_c9 {post : Int32 → SY → Prop} {x y z fp : Int32} (vy : vp_in y 32) (H : wY_program_98 post 9 x y z (1 + W y.toNatClampNeg) fc fp fg hd W E F G b r) : py_C post 9 x y z fc fp fg hd W E F G b r := br_f (by decide) (br_f (by decide) (br_f (by decide) (And.intro vy (nm_e (br_f (by decide) H)))))
end
/-! ===== the states are related again ===== -/
theorem pr_fin {k c p : Nat} {lv g : Int32} {cs : Nat → Int64} {W : Nat → Int32} {fs gs E q : Nat → Int64} {hd F G b r : Nat → Int32} {wf wg : Int64} {EV EV' : Nat → Int64} {FV GV : Nat → Prop} (hc : c ≤ 24) (hp : p < 32) (RC : ∀ i s, i < 24 → s < 64 → hd (64 * i + s) = lb_i (lb_b (cs i) s)) (RF : ∀ i s, i < 32 → s < 64 → F (64 * i + s) = lb_i (lb_b (fs i) s)) (RG : ∀ i s, i < 32 → s < 64 → G (64 * i + s) = lb_i (lb_b (gs i) s)) (hE : ∀ s, s < 64 → EV s = EV' s) (hf : ∀ s, s < 64 → (lb_b wf s ↔ FV s)) (hg : ∀ s, s < 64 → (lb_b wg s ↔ GV s)) : i_Rel k (lv, nI c, nI (p + 1), cs, W, vp_updL fs p wf, vp_updL gs p wg, lb_fl E (64 * p) 64 EV, q) (nI c, nI (p + 1), g, hd, W, lb_fl E (64 * p) 64 EV', lb_fi F (64 * p) 64 (fun s => lb_i (FV s)), lb_fi G (64 * p) 64 (fun s => lb_i (GV s)), b, r) := by
  rw [lb_flC hE]
  refine ⟨lv, c, p + 1, cs, W, vp_updL fs p wf, vp_updL gs p wg, lb_fl E (64 * p) 64 EV', q, g, hd, _, _, b, r, hc, by omega, rfl, rfl, RC, ?_, ?_⟩
  · intro i s hi hs
    by_cases e : i = p
    · subst e
      rw [lb_fiI hs, pk_uLs, lb_ic (hf s hs)]
    · rw [lb_fiN (by omega), pk_uLn e]
      exact RF i s hi hs
  · intro i s hi hs
    by_cases e : i = p
    · subst e
      rw [lb_fiI hs, pk_uLs, lb_ic (hg s hs)]
    · rw [lb_fiN (by omega), pk_uLn e]
      exact RG i s hi hs
theorem pr_z {s : Nat} : lb_b 0 s ↔ False := ⟨fun z => lb_0 s z, False.elim⟩
theorem pr_vx {n N : Nat} {x : Int32} (h : lb_x n x) (hn : n ≤ N) (hN : N < 2 ^ 31) : vp_in x N := by
  obtain ⟨j, hj, e⟩ := h
  subst e
  exact lb_vi (by omega) hN
end
section
theorem pr_if {f : Nat → Int64} {T : Int64} {y z s : Nat} (hs : s < 64) : lb_b ((f y &&& T) ||| (f z &&& (T ^^^ (-1)))) s ↔ lb_b (f (xo_pick T y z s)) s := by
  rw [lb_or, lb_and, lb_and, lb_not _ hs]
  by_cases h : lb_b T s
  · have e : xo_pick T y z s = y := if_pos h
    rw [e]
    exact ⟨fun a => a.elim (fun a => a.1) (fun a => absurd h a.2), fun a => Or.inl ⟨a, h⟩⟩
  · have e : xo_pick T y z s = z := if_neg h
    rw [e]
    exact ⟨fun a => a.elim (fun a => absurd a.2 h) (fun a => a.1), fun a => Or.inr ⟨a, h⟩⟩
section
variable (fc fg : Int32) (hd W : Nat → Int32) (E : Nat → Int64) (F G b r : Nat → Int32)
theorem py_nok {post : Int32 → SY → Prop} {k x y z : Int32} {p : Nat} {OK : Prop} (hp : p < 32) (hk : lb_x 10 k) (hfit : ∀ post' : Int32 → Prop, post' (lb_i OK) → wpY_fits post' (fc, nI p, fg, hd, W, E, F, G, b, r) k x y z) (n : ¬ OK) (bad : post (-1) (fc, nI p, fg, hd, W, E, F, G, b, r)) : wpY_program post (fc, nI p, fg, hd, W, E, F, G, b, r) k x y z :=
  py_top fc fg hd W E F G b r (w := 1) (EV := fun _ => 0) (FV := fun _ => False) (GV := fun _ => False) hp hk hfit (fun m => absurd m n) (fun _ => bad) (fun m => absurd m n) (fun m => absurd m n) (fun m => absurd m n)
end
theorem pr_0 {k c p : Nat} {lv g : Int32} {cs : Nat → Int64} {W : Nat → Int32} {fs gs E q : Nat → Int64} {hd F G b r : Nat → Int32} {v2 v3 v4 : Int32} (hc : c ≤ 24) (hp : p < 32) (J : i_Rel (k + 5) (lv, nI c, nI p, cs, W, fs, gs, E, q) (nI c, nI p, g, hd, W, E, F, G, b, r)) (RC : ∀ i s, i < 24 → s < 64 → hd (64 * i + s) = lb_i (lb_b (cs i) s)) (RF : ∀ i s, i < 32 → s < 64 → F (64 * i + s) = lb_i (lb_b (fs i) s)) (RG : ∀ i s, i < 32 → s < 64 → G (64 * i + s) = lb_i (lb_b (gs i) s)) : wpX_program (fun ra u' => wpY_program (fun r' v' => r' = ra ∧ i_Rel (k + 5) u' v') (nI c, nI p, g, hd, W, E, F, G, b, r) 0 v2 v3 v4) (lv, nI c, nI p, cs, W, fs, gs, E, q) 0 v2 v3 v4 := by
  have vp : vp_in (nI p) 32 := lb_vi hp (by decide)
  by_cases ok : True
  · refine br_t (lb_lt32 hp) (px_0 lv cs W fs gs E q (lb_br (fun n => absurd ok n) (fun _ => ?_)))
    exact br_t (by decide) (br_c (fun hw => And.intro vp (nm_r (lb_ui (by omega)) (br_f (by decide) (br_f (by decide) (br_t rfl (xo_stay lv (nI c) (nI p) cs _ fs gs E q hp (nm_r (nI_1 p) (py_top (nI c) g hd W E F G b r (w := 1) (EV := (fun s => ((1 : Int64) <<< ((nI s).toInt64 &&& 63)))) (FV := (fun _ => False)) (GV := (fun _ => False)) hp ⟨0, by omega, rfl⟩ (fun post' h => py_0 g hd W E F G b r h) (fun _ H => py_c5 (nI c) g hd W E F G b r (by decide) (by decide) (by decide) (by decide) H) (fun n => absurd ok n) (fun _ h => absurd hw h) (fun _ _ => yp_0 (nI c) hd _ E F G hp) (fun _ _ b' r' g' => ⟨rfl, pr_fin hc hp RC RF RG (fun s hs => lb_stT hs (lb_m1 hs)) (fun s _ => pr_z) (fun s _ => pr_z)⟩))))))))) (fun hw => py_top (nI c) g hd W E F G b r (w := 1) (EV := (fun s => ((1 : Int64) <<< ((nI s).toInt64 &&& 63)))) (FV := (fun _ => False)) (GV := (fun _ => False)) hp ⟨0, by omega, rfl⟩ (fun post' h => py_0 g hd W E F G b r h) (fun _ H => py_c5 (nI c) g hd W E F G b r (by decide) (by decide) (by decide) (by decide) H) (fun n => absurd ok n) (fun _ _ => ⟨rfl, J⟩) (fun _ h => absurd h hw) (fun _ h => absurd h hw)))
  · exact br_t (lb_lt32 hp) (px_0 lv cs W fs gs E q (lb_br (fun n => py_nok (nI c) g hd W E F G b r hp ⟨0, by omega, rfl⟩ (fun post' h => py_0 g hd W E F G b r h) n ⟨rfl, J⟩) (fun m => absurd m ok)))
theorem pr_1 {k c p : Nat} {lv g : Int32} {cs : Nat → Int64} {W : Nat → Int32} {fs gs E q : Nat → Int64} {hd F G b r : Nat → Int32} {v2 v3 v4 : Int32} (hc : c ≤ 24) (hp : p < 32) (J : i_Rel (k + 5) (lv, nI c, nI p, cs, W, fs, gs, E, q) (nI c, nI p, g, hd, W, E, F, G, b, r)) (RC : ∀ i s, i < 24 → s < 64 → hd (64 * i + s) = lb_i (lb_b (cs i) s)) (RF : ∀ i s, i < 32 → s < 64 → F (64 * i + s) = lb_i (lb_b (fs i) s)) (RG : ∀ i s, i < 32 → s < 64 → G (64 * i + s) = lb_i (lb_b (gs i) s)) : wpX_program (fun ra u' => wpY_program (fun r' v' => r' = ra ∧ i_Rel (k + 5) u' v') (nI c, nI p, g, hd, W, E, F, G, b, r) 1 v2 v3 v4) (lv, nI c, nI p, cs, W, fs, gs, E, q) 1 v2 v3 v4 := by
  have vp : vp_in (nI p) 32 := lb_vi hp (by decide)
  by_cases ok : True
  · refine br_t (lb_lt32 hp) (px_1 lv cs W fs gs E q (lb_br (fun n => absurd ok n) (fun _ => ?_)))
    exact br_t (by decide) (br_c (fun hw => And.intro vp (nm_r (lb_ui (by omega)) (br_f (by decide) (br_f (by decide) (br_f (by decide) (br_t rfl (xo_stay lv (nI c) (nI p) cs _ fs gs E q hp (nm_r (nI_1 p) (py_top (nI c) g hd W E F G b r (w := 1) (EV := (fun _ => 0)) (FV := (fun _ => True)) (GV := (fun _ => False)) hp ⟨1, by omega, rfl⟩ (fun post' h => py_1 g hd W E F G b r h) (fun _ H => py_c5 (nI c) g hd W E F G b r (by decide) (by decide) (by decide) (by decide) H) (fun n => absurd ok n) (fun _ h => absurd hw h) (fun _ _ => yp_1 (nI c) hd _ E F G hp) (fun _ _ b' r' g' => ⟨rfl, pr_fin hc hp RC RF RG (fun s hs => lb_stF hs (lb_0 s)) (fun s hs => ⟨fun _ => True.intro, fun _ => lb_m1 hs⟩) (fun s _ => pr_z)⟩)))))))))) (fun hw => py_top (nI c) g hd W E F G b r (w := 1) (EV := (fun _ => 0)) (FV := (fun _ => True)) (GV := (fun _ => False)) hp ⟨1, by omega, rfl⟩ (fun post' h => py_1 g hd W E F G b r h) (fun _ H => py_c5 (nI c) g hd W E F G b r (by decide) (by decide) (by decide) (by decide) H) (fun n => absurd ok n) (fun _ _ => ⟨rfl, J⟩) (fun _ h => absurd h hw) (fun _ h => absurd h hw)))
  · exact br_t (lb_lt32 hp) (px_1 lv cs W fs gs E q (lb_br (fun n => py_nok (nI c) g hd W E F G b r hp ⟨1, by omega, rfl⟩ (fun post' h => py_1 g hd W E F G b r h) n ⟨rfl, J⟩) (fun m => absurd m ok)))
theorem pr_2 {k c p : Nat} {lv g : Int32} {cs : Nat → Int64} {W : Nat → Int32} {fs gs E q : Nat → Int64} {hd F G b r : Nat → Int32} {v2 v3 v4 : Int32} (hc : c ≤ 24) (hp : p < 32) (J : i_Rel (k + 5) (lv, nI c, nI p, cs, W, fs, gs, E, q) (nI c, nI p, g, hd, W, E, F, G, b, r)) (RC : ∀ i s, i < 24 → s < 64 → hd (64 * i + s) = lb_i (lb_b (cs i) s)) (RF : ∀ i s, i < 32 → s < 64 → F (64 * i + s) = lb_i (lb_b (fs i) s)) (RG : ∀ i s, i < 32 → s < 64 → G (64 * i + s) = lb_i (lb_b (gs i) s)) : wpX_program (fun ra u' => wpY_program (fun r' v' => r' = ra ∧ i_Rel (k + 5) u' v') (nI c, nI p, g, hd, W, E, F, G, b, r) 2 v2 v3 v4) (lv, nI c, nI p, cs, W, fs, gs, E, q) 2 v2 v3 v4 := by
  have vp : vp_in (nI p) 32 := lb_vi hp (by decide)
  by_cases ok : lb_x 3 v2 ∧ lb_x 4 v3 ∧ lb_x 4 v4
  · refine br_t (lb_lt32 hp) (px_2 lv cs W fs gs E q (lb_br (fun n => absurd ok n) (fun _ => ?_)))
    exact br_t (by decide) (br_c (fun hw => And.intro vp (nm_r (lb_ui (by omega)) (br_f (by decide) (br_f (by decide) (br_f (by decide) (br_f (by decide) (br_t rfl (xo_sett lv (nI c) (nI p) cs _ fs gs E q hp ok.2.1 (nm_r (nI_1 p) (py_top (nI c) g hd W E F G b r (w := 1) (EV := (xo_set v2 v3 v4)) (FV := (fun _ => False)) (GV := (fun _ => False)) hp ⟨2, by omega, rfl⟩ (fun post' h => py_2 g hd W E F G b r h) (fun _ H => py_c5 (nI c) g hd W E F G b r (by decide) (by decide) (by decide) (by decide) H) (fun n => absurd ok n) (fun _ h => absurd hw h) (fun _ _ => yp_2 (nI c) hd _ E F G hp) (fun _ _ b' r' g' => ⟨rfl, pr_fin hc hp RC RF RG (fun s hs => rfl) (fun s _ => pr_z) (fun s _ => pr_z)⟩))))))))))) (fun hw => py_top (nI c) g hd W E F G b r (w := 1) (EV := (xo_set v2 v3 v4)) (FV := (fun _ => False)) (GV := (fun _ => False)) hp ⟨2, by omega, rfl⟩ (fun post' h => py_2 g hd W E F G b r h) (fun _ H => py_c5 (nI c) g hd W E F G b r (by decide) (by decide) (by decide) (by decide) H) (fun n => absurd ok n) (fun _ _ => ⟨rfl, J⟩) (fun _ h => absurd h hw) (fun _ h => absurd h hw)))
  · exact br_t (lb_lt32 hp) (px_2 lv cs W fs gs E q (lb_br (fun n => py_nok (nI c) g hd W E F G b r hp ⟨2, by omega, rfl⟩ (fun post' h => py_2 g hd W E F G b r h) n ⟨rfl, J⟩) (fun m => absurd m ok)))
theorem pr_3 {k c p : Nat} {lv g : Int32} {cs : Nat → Int64} {W : Nat → Int32} {fs gs E q : Nat → Int64} {hd F G b r : Nat → Int32} {v2 v3 v4 : Int32} (hc : c ≤ 24) (hp : p < 32) (J : i_Rel (k + 5) (lv, nI c, nI p, cs, W, fs, gs, E, q) (nI c, nI p, g, hd, W, E, F, G, b, r)) (RC : ∀ i s, i < 24 → s < 64 → hd (64 * i + s) = lb_i (lb_b (cs i) s)) (RF : ∀ i s, i < 32 → s < 64 → F (64 * i + s) = lb_i (lb_b (fs i) s)) (RG : ∀ i s, i < 32 → s < 64 → G (64 * i + s) = lb_i (lb_b (gs i) s)) : wpX_program (fun ra u' => wpY_program (fun r' v' => r' = ra ∧ i_Rel (k + 5) u' v') (nI c, nI p, g, hd, W, E, F, G, b, r) 3 v2 v3 v4) (lv, nI c, nI p, cs, W, fs, gs, E, q) 3 v2 v3 v4 := by
  have vp : vp_in (nI p) 32 := lb_vi hp (by decide)
  by_cases ok : lb_x 3 v2
  · refine br_t (lb_lt32 hp) (px_3 lv cs W fs gs E q (lb_br (fun n => absurd ok n) (fun _ => ?_)))
    exact br_t (by decide) (br_c (fun hw => And.intro vp (nm_r (lb_ui (by omega)) (br_f (by decide) (br_f (by decide) (br_f (by decide) (br_f (by decide) (br_f (by decide) (br_t rfl (xo_anyt lv (nI c) (nI p) cs _ fs gs E q hp (nm_r (nI_1 p) (py_top (nI c) g hd W E F G b r (w := 1) (EV := (fun s => xo_any v2 s 4)) (FV := (fun _ => False)) (GV := (fun _ => False)) hp ⟨3, by omega, rfl⟩ (fun post' h => py_3 g hd W E F G b r h) (fun _ H => py_c5 (nI c) g hd W E F G b r (by decide) (by decide) (by decide) (by decide) H) (fun n => absurd ok n) (fun _ h => absurd hw h) (fun _ _ => yp_3 (nI c) hd _ E F G hp) (fun _ _ b' r' g' => ⟨rfl, pr_fin hc hp RC RF RG (fun s hs => rfl) (fun s _ => pr_z) (fun s _ => pr_z)⟩)))))))))))) (fun hw => py_top (nI c) g hd W E F G b r (w := 1) (EV := (fun s => xo_any v2 s 4)) (FV := (fun _ => False)) (GV := (fun _ => False)) hp ⟨3, by omega, rfl⟩ (fun post' h => py_3 g hd W E F G b r h) (fun _ H => py_c5 (nI c) g hd W E F G b r (by decide) (by decide) (by decide) (by decide) H) (fun n => absurd ok n) (fun _ _ => ⟨rfl, J⟩) (fun _ h => absurd h hw) (fun _ h => absurd h hw)))
  · exact br_t (lb_lt32 hp) (px_3 lv cs W fs gs E q (lb_br (fun n => py_nok (nI c) g hd W E F G b r hp ⟨3, by omega, rfl⟩ (fun post' h => py_3 g hd W E F G b r h) n ⟨rfl, J⟩) (fun m => absurd m ok)))
theorem pr_4 {k c p : Nat} {lv g : Int32} {cs : Nat → Int64} {W : Nat → Int32} {fs gs E q : Nat → Int64} {hd F G b r : Nat → Int32} {v2 v3 v4 : Int32} (hc : c ≤ 24) (hp : p < 32) (J : i_Rel (k + 5) (lv, nI c, nI p, cs, W, fs, gs, E, q) (nI c, nI p, g, hd, W, E, F, G, b, r)) (RC : ∀ i s, i < 24 → s < 64 → hd (64 * i + s) = lb_i (lb_b (cs i) s)) (RF : ∀ i s, i < 32 → s < 64 → F (64 * i + s) = lb_i (lb_b (fs i) s)) (RG : ∀ i s, i < 32 → s < 64 → G (64 * i + s) = lb_i (lb_b (gs i) s)) : wpX_program (fun ra u' => wpY_program (fun r' v' => r' = ra ∧ i_Rel (k + 5) u' v') (nI c, nI p, g, hd, W, E, F, G, b, r) 4 v2 v3 v4) (lv, nI c, nI p, cs, W, fs, gs, E, q) 4 v2 v3 v4 := by
  have vp : vp_in (nI p) 32 := lb_vi hp (by decide)
  by_cases ok : lb_x c v2
  · refine br_t (lb_lt32 hp) (px_4 lv cs W fs gs E q hc (lb_br (fun n => absurd ok n) (fun _ => ?_)))
    have ok2 := ok
    obtain ⟨i, hi, ei⟩ := ok2
    subst ei
    have vi : vp_in (nI i) 24 := lb_vi (by omega) (by decide)
    have ii : (nI i).toNatClampNeg = i := lb_cl (by omega)
    exact br_t (by decide) (br_c (fun hw => And.intro vp (nm_r (lb_ui (by omega)) (br_f (by decide) (br_f (by decide) (br_f (by decide) (br_f (by decide) (br_f (by decide) (br_f (by decide) (br_t rfl (And.intro vi (xo_stay lv (nI c) (nI p) cs _ fs gs E q hp (nm_r (nI_1 p) (py_top (nI c) g hd W E F G b r (w := 1) (EV := (fun s => cs i &&& ((1 : Int64) <<< ((nI s).toInt64 &&& 63)))) (FV := (fun _ => False)) (GV := (fun _ => False)) hp ⟨4, by omega, rfl⟩ (fun post' h => py_4 g hd W E F G b r hc h) (fun _ H => py_c5 (nI c) g hd W E F G b r (by decide) (by decide) (by decide) (by decide) H) (fun n => absurd ok n) (fun _ h => absurd hw h) (fun _ _ => yp_4 (nI c) hd _ E F G hp (by omega) (fun t ht => RC i t (by omega) ht)) (fun _ _ b' r' g' => ⟨rfl, pr_fin hc hp RC RF RG (fun s hs => by rw [ii]) (fun s _ => pr_z) (fun s _ => pr_z)⟩)))))))))))))) (fun hw => py_top (nI c) g hd W E F G b r (w := 1) (EV := (fun s => cs i &&& ((1 : Int64) <<< ((nI s).toInt64 &&& 63)))) (FV := (fun _ => False)) (GV := (fun _ => False)) hp ⟨4, by omega, rfl⟩ (fun post' h => py_4 g hd W E F G b r hc h) (fun _ H => py_c5 (nI c) g hd W E F G b r (by decide) (by decide) (by decide) (by decide) H) (fun n => absurd ok n) (fun _ _ => ⟨rfl, J⟩) (fun _ h => absurd h hw) (fun _ h => absurd h hw)))
  · exact br_t (lb_lt32 hp) (px_4 lv cs W fs gs E q hc (lb_br (fun n => py_nok (nI c) g hd W E F G b r hp ⟨4, by omega, rfl⟩ (fun post' h => py_4 g hd W E F G b r hc h) n ⟨rfl, J⟩) (fun m => absurd m ok)))
theorem pr_5 {k c p : Nat} {lv g : Int32} {cs : Nat → Int64} {W : Nat → Int32} {fs gs E q : Nat → Int64} {hd F G b r : Nat → Int32} {v2 v3 v4 : Int32} (hc : c ≤ 24) (hp : p < 32) (J : i_Rel (k + 5) (lv, nI c, nI p, cs, W, fs, gs, E, q) (nI c, nI p, g, hd, W, E, F, G, b, r)) (RC : ∀ i s, i < 24 → s < 64 → hd (64 * i + s) = lb_i (lb_b (cs i) s)) (RF : ∀ i s, i < 32 → s < 64 → F (64 * i + s) = lb_i (lb_b (fs i) s)) (RG : ∀ i s, i < 32 → s < 64 → G (64 * i + s) = lb_i (lb_b (gs i) s)) : wpX_program (fun ra u' => wpY_program (fun r' v' => r' = ra ∧ i_Rel (k + 5) u' v') (nI c, nI p, g, hd, W, E, F, G, b, r) 5 v2 v3 v4) (lv, nI c, nI p, cs, W, fs, gs, E, q) 5 v2 v3 v4 := by
  have vp : vp_in (nI p) 32 := lb_vi hp (by decide)
  by_cases ok : lb_x c v2
  · refine br_t (lb_lt32 hp) (px_5 lv cs W fs gs E q hc (lb_br (fun n => absurd ok n) (fun _ => ?_)))
    have ok2 := ok
    obtain ⟨i, hi, ei⟩ := ok2
    subst ei
    have vi : vp_in (nI i) 24 := lb_vi (by omega) (by decide)
    have ii : (nI i).toNatClampNeg = i := lb_cl (by omega)
    exact br_t (by decide) (br_c (fun hw => And.intro vp (nm_r (lb_ui (by omega)) (br_f (by decide) (br_f (by decide) (br_f (by decide) (br_f (by decide) (br_f (by decide) (br_f (by decide) (br_f (by decide) (br_t rfl (And.intro vi (And.intro vi (xo_stay lv (nI c) (nI p) cs _ fs gs E q hp (nm_r (nI_1 p) (py_top (nI c) g hd W E F G b r (w := 1) (EV := (fun s => cs i &&& ((1 : Int64) <<< ((nI s).toInt64 &&& 63)))) (FV := (fun s => ¬ lb_b (cs i) s)) (GV := (fun _ => False)) hp ⟨5, by omega, rfl⟩ (fun post' h => py_5 g hd W E F G b r hc h) (fun _ H => py_c5 (nI c) g hd W E F G b r (by decide) (by decide) (by decide) (by decide) H) (fun n => absurd ok n) (fun _ h => absurd hw h) (fun _ _ => yp_5 (nI c) hd _ E F G hp (by omega) (fun t ht => RC i t (by omega) ht)) (fun _ _ b' r' g' => ⟨rfl, pr_fin hc hp RC RF RG (fun s hs => by rw [ii]) (fun s hs => by rw [ii]; exact lb_not _ hs) (fun s _ => pr_z)⟩)))))))))))))))) (fun hw => py_top (nI c) g hd W E F G b r (w := 1) (EV := (fun s => cs i &&& ((1 : Int64) <<< ((nI s).toInt64 &&& 63)))) (FV := (fun s => ¬ lb_b (cs i) s)) (GV := (fun _ => False)) hp ⟨5, by omega, rfl⟩ (fun post' h => py_5 g hd W E F G b r hc h) (fun _ H => py_c5 (nI c) g hd W E F G b r (by decide) (by decide) (by decide) (by decide) H) (fun n => absurd ok n) (fun _ _ => ⟨rfl, J⟩) (fun _ h => absurd h hw) (fun _ h => absurd h hw)))
  · exact br_t (lb_lt32 hp) (px_5 lv cs W fs gs E q hc (lb_br (fun n => py_nok (nI c) g hd W E F G b r hp ⟨5, by omega, rfl⟩ (fun post' h => py_5 g hd W E F G b r hc h) n ⟨rfl, J⟩) (fun m => absurd m ok)))
theorem pr_6 {k c p : Nat} {lv g : Int32} {cs : Nat → Int64} {W : Nat → Int32} {fs gs E q : Nat → Int64} {hd F G b r : Nat → Int32} {v2 v3 v4 : Int32} (hc : c ≤ 24) (hp : p < 32) (J : i_Rel (k + 5) (lv, nI c, nI p, cs, W, fs, gs, E, q) (nI c, nI p, g, hd, W, E, F, G, b, r)) (RC : ∀ i s, i < 24 → s < 64 → hd (64 * i + s) = lb_i (lb_b (cs i) s)) (RF : ∀ i s, i < 32 → s < 64 → F (64 * i + s) = lb_i (lb_b (fs i) s)) (RG : ∀ i s, i < 32 → s < 64 → G (64 * i + s) = lb_i (lb_b (gs i) s)) : wpX_program (fun ra u' => wpY_program (fun r' v' => r' = ra ∧ i_Rel (k + 5) u' v') (nI c, nI p, g, hd, W, E, F, G, b, r) 6 v2 v3 v4) (lv, nI c, nI p, cs, W, fs, gs, E, q) 6 v2 v3 v4 := by
  have vp : vp_in (nI p) 32 := lb_vi hp (by decide)
  by_cases ok : lb_x p v2 ∧ lb_x p v3
  · refine br_t (lb_lt32 hp) (px_6 lv cs W fs gs E q (by omega) (lb_br (fun n => absurd ok n) (fun _ => ?_)))
    have ok2 := ok
    obtain ⟨⟨i, hi, ei⟩, ⟨j, hj, ej⟩⟩ := ok2
    subst ei ej
    have vi : vp_in (nI i) 32 := lb_vi (by omega) (by decide)
    have vj : vp_in (nI j) 32 := lb_vi (by omega) (by decide)
    exact br_f (by decide) (br_f (by decide) (br_t rfl (And.intro vi (And.intro vj (br_c (fun hw => And.intro vp (nm_r (lb_ui (by omega)) (br_f (by decide) (br_f (by decide) (br_f (by decide) (br_f (by decide) (br_f (by decide) (br_f (by decide) (br_f (by decide) (br_f (by decide) (br_t rfl (xo_thent lv (nI c) (nI p) cs _ fs gs E q hp hi hj (fun wf wg hf hg => nm_r (nI_1 p) (py_top (nI c) g hd W E F G b r (w := ((1 + W (nI i).toNatClampNeg) + W (nI j).toNatClampNeg)) (EV := (xo_then E i j)) (FV := (fun s => xo_thenF E fs i j s)) (GV := (fun s => xo_thenF E gs i j s)) hp ⟨6, by omega, rfl⟩ (fun post' h => py_6 g hd W E F G b r (by omega) h) (fun _ H => py_c6 (nI c) g hd W E F G b r vi vj H) (fun n => absurd ok n) (fun _ h => absurd hw h) (fun _ _ => yp_6 (nI c) hd _ E F G hp hi hj RF RG) (fun _ _ b' r' g' => ⟨rfl, pr_fin hc hp RC RF RG (fun s hs => rfl) hf hg⟩))))))))))))))) (fun hw => py_top (nI c) g hd W E F G b r (w := ((1 + W (nI i).toNatClampNeg) + W (nI j).toNatClampNeg)) (EV := (xo_then E i j)) (FV := (fun s => xo_thenF E fs i j s)) (GV := (fun s => xo_thenF E gs i j s)) hp ⟨6, by omega, rfl⟩ (fun post' h => py_6 g hd W E F G b r (by omega) h) (fun _ H => py_c6 (nI c) g hd W E F G b r vi vj H) (fun n => absurd ok n) (fun _ _ => ⟨rfl, J⟩) (fun _ h => absurd h hw) (fun _ h => absurd h hw)))))))
  · exact br_t (lb_lt32 hp) (px_6 lv cs W fs gs E q (by omega) (lb_br (fun n => py_nok (nI c) g hd W E F G b r hp ⟨6, by omega, rfl⟩ (fun post' h => py_6 g hd W E F G b r (by omega) h) n ⟨rfl, J⟩) (fun m => absurd m ok)))
theorem pr_7 {k c p : Nat} {lv g : Int32} {cs : Nat → Int64} {W : Nat → Int32} {fs gs E q : Nat → Int64} {hd F G b r : Nat → Int32} {v2 v3 v4 : Int32} (hc : c ≤ 24) (hp : p < 32) (J : i_Rel (k + 5) (lv, nI c, nI p, cs, W, fs, gs, E, q) (nI c, nI p, g, hd, W, E, F, G, b, r)) (RC : ∀ i s, i < 24 → s < 64 → hd (64 * i + s) = lb_i (lb_b (cs i) s)) (RF : ∀ i s, i < 32 → s < 64 → F (64 * i + s) = lb_i (lb_b (fs i) s)) (RG : ∀ i s, i < 32 → s < 64 → G (64 * i + s) = lb_i (lb_b (gs i) s)) : wpX_program (fun ra u' => wpY_program (fun r' v' => r' = ra ∧ i_Rel (k + 5) u' v') (nI c, nI p, g, hd, W, E, F, G, b, r) 7 v2 v3 v4) (lv, nI c, nI p, cs, W, fs, gs, E, q) 7 v2 v3 v4 := by
  have vp : vp_in (nI p) 32 := lb_vi hp (by decide)
  by_cases ok : lb_x c v2 ∧ lb_x p v3 ∧ lb_x p v4
  · refine br_t (lb_lt32 hp) (px_7 lv cs W fs gs E q hc (by omega) (lb_br (fun n => absurd ok n) (fun _ => ?_)))
    have ok2 := ok
    obtain ⟨⟨i, hi, ei⟩, ⟨j, hj, ej⟩, ⟨l, hl, el⟩⟩ := ok2
    subst ei ej el
    have vi : vp_in (nI i) 24 := lb_vi (by omega) (by decide)
    have vj : vp_in (nI j) 32 := lb_vi (by omega) (by decide)
    have vl : vp_in (nI l) 32 := lb_vi (by omega) (by decide)
    have ii : (nI i).toNatClampNeg = i := lb_cl (by omega)
    exact br_f (by decide) (br_f (by decide) (br_f (by decide) (br_t rfl (And.intro vj (And.intro vl (br_c (fun hw => And.intro vp (nm_r (lb_ui (by omega)) (br_f (by decide) (br_f (by decide) (br_f (by decide) (br_f (by decide) (br_f (by decide) (br_f (by decide) (br_f (by decide) (br_f (by decide) (br_f (by decide) (br_t rfl (And.intro vi (xo_ift lv (nI c) (nI p) cs _ fs gs E q hp hj hl (nm_r (nI_1 p) (py_top (nI c) g hd W E F G b r (w := ((1 + W (nI j).toNatClampNeg) + W (nI l).toNatClampNeg)) (EV := (fun s => E (64 * xo_pick (cs i) j l s + s))) (FV := (fun s => lb_b (fs (xo_pick (cs i) j l s)) s)) (GV := (fun s => lb_b (gs (xo_pick (cs i) j l s)) s)) hp ⟨7, by omega, rfl⟩ (fun post' h => py_7 g hd W E F G b r hc (by omega) h) (fun _ H => py_c7 (nI c) g hd W E F G b r vj vl H) (fun n => absurd ok n) (fun _ h => absurd hw h) (fun _ _ => yp_7 (nI c) hd _ E F G hp (by omega) hj hl (fun t ht => RC i t (by omega) ht) RF RG) (fun _ _ b' r' g' => ⟨rfl, pr_fin hc hp RC RF RG (fun s hs => by rw [ii]) (fun s hs => by rw [ii]; exact pr_if hs) (fun s hs => by rw [ii]; exact pr_if hs)⟩))))))))))))))))) (fun hw => py_top (nI c) g hd W E F G b r (w := ((1 + W (nI j).toNatClampNeg) + W (nI l).toNatClampNeg)) (EV := (fun s => E (64 * xo_pick (cs i) j l s + s))) (FV := (fun s => lb_b (fs (xo_pick (cs i) j l s)) s)) (GV := (fun s => lb_b (gs (xo_pick (cs i) j l s)) s)) hp ⟨7, by omega, rfl⟩ (fun post' h => py_7 g hd W E F G b r hc (by omega) h) (fun _ H => py_c7 (nI c) g hd W E F G b r vj vl H) (fun n => absurd ok n) (fun _ _ => ⟨rfl, J⟩) (fun _ h => absurd h hw) (fun _ h => absurd h hw))))))))
  · exact br_t (lb_lt32 hp) (px_7 lv cs W fs gs E q hc (by omega) (lb_br (fun n => py_nok (nI c) g hd W E F G b r hp ⟨7, by omega, rfl⟩ (fun post' h => py_7 g hd W E F G b r hc (by omega) h) n ⟨rfl, J⟩) (fun m => absurd m ok)))
theorem pr_8 {k c p : Nat} {lv g : Int32} {cs : Nat → Int64} {W : Nat → Int32} {fs gs E q : Nat → Int64} {hd F G b r : Nat → Int32} {v2 v3 v4 : Int32} (hc : c ≤ 24) (hp : p < 32) (J : i_Rel (k + 5) (lv, nI c, nI p, cs, W, fs, gs, E, q) (nI c, nI p, g, hd, W, E, F, G, b, r)) (RC : ∀ i s, i < 24 → s < 64 → hd (64 * i + s) = lb_i (lb_b (cs i) s)) (RF : ∀ i s, i < 32 → s < 64 → F (64 * i + s) = lb_i (lb_b (fs i) s)) (RG : ∀ i s, i < 32 → s < 64 → G (64 * i + s) = lb_i (lb_b (gs i) s)) : wpX_program (fun ra u' => wpY_program (fun r' v' => r' = ra ∧ i_Rel (k + 5) u' v') (nI c, nI p, g, hd, W, E, F, G, b, r) 8 v2 v3 v4) (lv, nI c, nI p, cs, W, fs, gs, E, q) 8 v2 v3 v4 := by
  have vp : vp_in (nI p) 32 := lb_vi hp (by decide)
  by_cases ok : lb_x p v2 ∧ lb_x p v3
  · refine br_t (lb_lt32 hp) (px_8 lv cs W fs gs E q (by omega) (lb_br (fun n => absurd ok n) (fun _ => ?_)))
    have ok2 := ok
    obtain ⟨⟨i, hi, ei⟩, ⟨j, hj, ej⟩⟩ := ok2
    subst ei ej
    have vi : vp_in (nI i) 32 := lb_vi (by omega) (by decide)
    have vj : vp_in (nI j) 32 := lb_vi (by omega) (by decide)
    exact br_f (by decide) (br_f (by decide) (br_f (by decide) (br_f (by decide) (br_t rfl (And.intro vi (And.intro vj (br_c (fun hw => And.intro vp (nm_r (lb_ui (by omega)) (br_f (by decide) (br_f (by decide) (br_f (by decide) (br_f (by decide) (br_f (by decide) (br_f (by decide) (br_f (by decide) (br_f (by decide) (br_f (by decide) (br_f (by decide) (br_t rfl (xo_cht lv (nI c) (nI p) cs _ fs gs E q hp hi hj (nm_r (nI_1 p) (py_top (nI c) g hd W E F G b r (w := ((1 + W (nI i).toNatClampNeg) + W (nI j).toNatClampNeg)) (EV := (fun s => E (64 * i + s) ||| E (64 * j + s))) (FV := (fun s => lb_b (fs i) s ∨ lb_b (fs j) s)) (GV := (fun s => lb_b (gs i) s ∨ lb_b (gs j) s)) hp ⟨8, by omega, rfl⟩ (fun post' h => py_8 g hd W E F G b r (by omega) h) (fun _ H => py_c8 (nI c) g hd W E F G b r vi vj H) (fun n => absurd ok n) (fun _ h => absurd hw h) (fun _ _ => yp_8 (nI c) hd _ E F G hp hi hj RF RG) (fun _ _ b' r' g' => ⟨rfl, pr_fin hc hp RC RF RG (fun s hs => rfl) (fun s hs => lb_or _ _ s) (fun s hs => lb_or _ _ s)⟩))))))))))))))))) (fun hw => py_top (nI c) g hd W E F G b r (w := ((1 + W (nI i).toNatClampNeg) + W (nI j).toNatClampNeg)) (EV := (fun s => E (64 * i + s) ||| E (64 * j + s))) (FV := (fun s => lb_b (fs i) s ∨ lb_b (fs j) s)) (GV := (fun s => lb_b (gs i) s ∨ lb_b (gs j) s)) hp ⟨8, by omega, rfl⟩ (fun post' h => py_8 g hd W E F G b r (by omega) h) (fun _ H => py_c8 (nI c) g hd W E F G b r vi vj H) (fun n => absurd ok n) (fun _ _ => ⟨rfl, J⟩) (fun _ h => absurd h hw) (fun _ h => absurd h hw)))))))))
  · exact br_t (lb_lt32 hp) (px_8 lv cs W fs gs E q (by omega) (lb_br (fun n => py_nok (nI c) g hd W E F G b r hp ⟨8, by omega, rfl⟩ (fun post' h => py_8 g hd W E F G b r (by omega) h) n ⟨rfl, J⟩) (fun m => absurd m ok)))
theorem pr_9 {k c p : Nat} {lv g : Int32} {cs : Nat → Int64} {W : Nat → Int32} {fs gs E q : Nat → Int64} {hd F G b r : Nat → Int32} {v2 v3 v4 : Int32} (hc : c ≤ 24) (hp : p < 32) (J : i_Rel (k + 5) (lv, nI c, nI p, cs, W, fs, gs, E, q) (nI c, nI p, g, hd, W, E, F, G, b, r)) (RC : ∀ i s, i < 24 → s < 64 → hd (64 * i + s) = lb_i (lb_b (cs i) s)) (RF : ∀ i s, i < 32 → s < 64 → F (64 * i + s) = lb_i (lb_b (fs i) s)) (RG : ∀ i s, i < 32 → s < 64 → G (64 * i + s) = lb_i (lb_b (gs i) s)) : wpX_program (fun ra u' => wpY_program (fun r' v' => r' = ra ∧ i_Rel (k + 5) u' v') (nI c, nI p, g, hd, W, E, F, G, b, r) 9 v2 v3 v4) (lv, nI c, nI p, cs, W, fs, gs, E, q) 9 v2 v3 v4 := by
  have vp : vp_in (nI p) 32 := lb_vi hp (by decide)
  by_cases ok : lb_x c v2 ∧ lb_x p v3
  · refine br_t (lb_lt32 hp) (px_9 lv cs W fs gs E q hc (by omega) (lb_br (fun n => absurd ok n) (fun _ => ?_)))
    have ok2 := ok
    obtain ⟨⟨i, hi, ei⟩, ⟨j, hj, ej⟩⟩ := ok2
    subst ei ej
    have vi : vp_in (nI i) 24 := lb_vi (by omega) (by decide)
    have vj : vp_in (nI j) 32 := lb_vi (by omega) (by decide)
    have ii : (nI i).toNatClampNeg = i := lb_cl (by omega)
    exact br_f (by decide) (br_f (by decide) (br_f (by decide) (br_f (by decide) (br_f (by decide) (br_t rfl (And.intro vj (br_c (fun hw => And.intro vp (nm_r (lb_ui (by omega)) (br_f (by decide) (br_t (by decide) (And.intro vi (xo_wht lv (nI c) (nI p) cs _ fs gs E q hp (by omega) (fun wf wg q' hf hg => nm_r (nI_1 p) (py_top (nI c) g hd W E F G b r (w := (1 + W (nI j).toNatClampNeg)) (EV := (sp_WE E (cs i) j)) (FV := (fun s => sp_WF E (cs i) (fs j) j s)) (GV := (fun s => sp_WG E (cs i) (gs j) j s)) hp ⟨9, by omega, rfl⟩ (fun post' h => py_9 g hd W E F G b r hc (by omega) h) (fun _ H => py_c9 (nI c) g hd W E F G b r vj H) (fun n => absurd ok n) (fun _ h => absurd hw h) (fun _ _ => yp_9 (nI c) hd _ E F G hp (by omega) hj (fun t ht => RC i t (by omega) ht) RF RG) (fun _ _ b' r' g' => ⟨rfl, pr_fin hc hp RC RF RG (fun s hs => by rw [ii]) (fun s hs => by have h := hf s hs; rw [ii] at h; exact h) (fun s hs => by have h := hg s hs; rw [ii] at h; exact h)⟩))))))))) (fun hw => py_top (nI c) g hd W E F G b r (w := (1 + W (nI j).toNatClampNeg)) (EV := (sp_WE E (cs i) j)) (FV := (fun s => sp_WF E (cs i) (fs j) j s)) (GV := (fun s => sp_WG E (cs i) (gs j) j s)) hp ⟨9, by omega, rfl⟩ (fun post' h => py_9 g hd W E F G b r hc (by omega) h) (fun _ H => py_c9 (nI c) g hd W E F G b r vj H) (fun n => absurd ok n) (fun _ _ => ⟨rfl, J⟩) (fun _ h => absurd h hw) (fun _ h => absurd h hw)))))))))
  · exact br_t (lb_lt32 hp) (px_9 lv cs W fs gs E q hc (by omega) (lb_br (fun n => py_nok (nI c) g hd W E F G b r hp ⟨9, by omega, rfl⟩ (fun post' h => py_9 g hd W E F G b r hc (by omega) h) n ⟨rfl, J⟩) (fun m => absurd m ok)))
theorem i_vc_program {k : Nat} {u : SX} {v : SY} (I : i_Rel k u v) (hk : k + 5 ≤ 2560) (v1 : Int32) (v2 : Int32) (v3 : Int32) (v4 : Int32) : wpX_program (fun r u' => wpY_program (fun r' v' => r' = r ∧ i_Rel (k + 5) u' v') v v1 v2 v3 v4) u v1 v2 v3 v4 := by
  have J : i_Rel (k + 5) u v := I
  obtain ⟨lv, c, p, cs, W, fs, gs, E, q, g, hd, F, G, b, r, hc, hp, eu, ev, RC, RF, RG⟩ := I
  subst eu ev
  by_cases h32 : p = 32
  · subst h32
    exact br_f (nI_nlt (a := 32) (b := 32) (by decide) (by decide)) (br_t rfl ⟨rfl, J⟩)
  have hp : p < 32 := by omega
  rcases pk_ix v1 (n := 10) (by decide) with hb | hb | ⟨j, hj, ej⟩
  · have n10 : ¬ lb_x 10 v1 := fun z => lb_x0 z (by decide) hb
    exact br_t (lb_lt32 hp) (px_b lv cs W fs gs E q (Or.inl hb) (br_t rfl (py_bad (nI c) g hd W E F G b r hp n10 ⟨rfl, J⟩)))
  · have hb : 9 < v1 := Int32.lt_of_lt_of_le (show (9 : Int32) < nI 10 by decide) hb
    have n10 : ¬ lb_x 10 v1 := fun z => lb_gt (n := 9) z (by decide) hb
    exact br_t (lb_lt32 hp) (px_b lv cs W fs gs E q (Or.inr hb) (br_t rfl (py_bad (nI c) g hd W E F G b r hp n10 ⟨rfl, J⟩)))
  · have hj : j = 0 ∨ j = 1 ∨ j = 2 ∨ j = 3 ∨ j = 4 ∨ j = 5 ∨ j = 6 ∨ j = 7 ∨ j = 8 ∨ j = 9 := by omega
    rcases hj with h | h | h | h | h | h | h | h | h | h <;> subst h <;> subst ej
    · exact pr_0 hc hp J RC RF RG
    · exact pr_1 hc hp J RC RF RG
    · exact pr_2 hc hp J RC RF RG
    · exact pr_3 hc hp J RC RF RG
    · exact pr_4 hc hp J RC RF RG
    · exact pr_5 hc hp J RC RF RG
    · exact pr_6 hc hp J RC RF RG
    · exact pr_7 hc hp J RC RF RG
    · exact pr_8 hc hp J RC RF RG
    · exact pr_9 hc hp J RC RF RG
end
