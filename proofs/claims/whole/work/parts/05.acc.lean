/-! ===== sets put together state by state ===== -/
def lb_acc (P : Nat → Prop) (i : Nat) (w : Int64) : Prop := ∀ j, j < 64 → (lb_b w j ↔ (j < i ∧ P j))
theorem lb_acc0 (P : Nat → Prop) : lb_acc P 0 0 := fun j _ => ⟨fun h => absurd h (lb_0 j), fun h => by omega⟩
theorem lb_accT {P : Nat → Prop} {i : Nat} {w : Int64} (hi : i < 64) (h : lb_acc P i w) (p : P i) : lb_acc P (i + 1) (w ||| ((1 : Int64) <<< ((nI i).toInt64 &&& 63))) := by
  intro j hj
  rw [lb_or, h j hj, lb_shl hi]
  constructor
  · intro z
    rcases z with z | z
    · exact ⟨by omega, z.2⟩
    · subst z; exact ⟨by omega, p⟩
  · intro z
    by_cases e : j = i
    · exact Or.inr e
    · exact Or.inl ⟨by omega, z.2⟩
theorem lb_accF {P : Nat → Prop} {i : Nat} {w : Int64} (h : lb_acc P i w) (p : ¬ P i) : lb_acc P (i + 1) w := by
  intro j hj
  rw [h j hj]
  constructor
  · intro z; exact ⟨by omega, z.2⟩
  · intro z
    by_cases e : j = i
    · subst e; exact absurd z.2 p
    · exact ⟨by omega, z.2⟩
theorem lb_accX {P : Nat → Prop} {w : Int64} (h : lb_acc P 64 w) : ∀ j, j < 64 → (lb_b w j ↔ P j) := fun j hj => (h j hj).trans ⟨fun z => z.2, fun z => ⟨hj, z⟩⟩
def lb_uni (V : Nat → Int64) (P : Nat → Prop) (i : Nat) (w : Int64) : Prop := ∀ j, j < 64 → (lb_b w j ↔ ∃ t, t < i ∧ P t ∧ lb_b (V t) j)
theorem lb_uni0 (V : Nat → Int64) (P : Nat → Prop) : lb_uni V P 0 0 := fun j _ => ⟨fun h => absurd h (lb_0 j), fun h => by obtain ⟨t, ht, _⟩ := h; omega⟩
theorem lb_uniT {V : Nat → Int64} {P : Nat → Prop} {i : Nat} {w : Int64} (h : lb_uni V P i w) (p : P i) : lb_uni V P (i + 1) (w ||| V i) := by
  intro j hj
  rw [lb_or, h j hj]
  constructor
  · intro z
    rcases z with ⟨t, ht, z⟩ | z
    · exact ⟨t, by omega, z⟩
    · exact ⟨i, by omega, p, z⟩
  · intro z
    obtain ⟨t, ht, z⟩ := z
    by_cases e : t = i
    · subst e; exact Or.inr z.2
    · exact Or.inl ⟨t, by omega, z⟩
theorem lb_uniF {V : Nat → Int64} {P : Nat → Prop} {i : Nat} {w : Int64} (h : lb_uni V P i w) (p : ¬ P i) : lb_uni V P (i + 1) w := by
  intro j hj
  rw [h j hj]
  constructor
  · intro z
    obtain ⟨t, ht, z⟩ := z
    exact ⟨t, by omega, z⟩
  · intro z
    obtain ⟨t, ht, z⟩ := z
    by_cases e : t = i
    · subst e; exact absurd z.1 p
    · exact ⟨t, by omega, z⟩
/-! ===== some state below i of which P holds ===== -/
theorem lb_exT {P : Nat → Prop} {i : Nat} (p : P i) : ∃ t, t < i + 1 ∧ P t := ⟨i, by omega, p⟩
theorem lb_exF {P : Nat → Prop} {i : Nat} (p : ¬ P i) : (∃ t, t < i + 1 ∧ P t) ↔ ∃ t, t < i ∧ P t := by
  constructor
  · intro z
    obtain ⟨t, ht, z⟩ := z
    by_cases e : t = i
    · subst e; exact absurd z p
    · exact ⟨t, by omega, z⟩
  · intro z
    obtain ⟨t, ht, z⟩ := z
    exact ⟨t, by omega, z⟩
theorem lb_exS {P : Nat → Prop} {i : Nat} : (∃ t, t < i + 1 ∧ P t) ↔ ((∃ t, t < i ∧ P t) ∨ P i) := by
  constructor
  · intro z
    obtain ⟨t, ht, z⟩ := z
    by_cases e : t = i
    · subst e; exact Or.inr z
    · exact Or.inl ⟨t, by omega, z⟩
  · intro z
    rcases z with ⟨t, ht, z⟩ | z
    · exact ⟨t, by omega, z⟩
    · exact ⟨i, by omega, z⟩
/-! ===== closing: one step m, state by state ===== -/
def xc_I (e : Nat → Nat → Prop) (m i : Nat) (q : Nat → Int64) : Prop := ∀ s, s < 64 → ∀ u, u < 64 → (lb_b (q s) u ↔ ((s < i ∧ gr_ws e (m + 1) s u) ∨ (i ≤ s ∧ gr_ws e m s u)))
theorem xc_m {e : Nat → Nat → Prop} {m i : Nat} {q : Nat → Int64} (h : xc_I e m i q) (hm : m < 64) {u : Nat} (hu : u < 64) : lb_b (q m) u ↔ gr_ws e m m u := by
  rw [h m hm u hu]
  constructor
  · intro z
    rcases z with ⟨_, z⟩ | ⟨_, z⟩
    · rcases z with z | z
      · exact z
      · exact z.2
    · exact z
  · intro z
    by_cases c : m < i
    · exact Or.inl ⟨c, Or.inl z⟩
    · exact Or.inr ⟨by omega, z⟩
theorem xc_i {e : Nat → Nat → Prop} {m i : Nat} {q : Nat → Int64} (h : xc_I e m i q) (hi : i < 64) {u : Nat} (hu : u < 64) : lb_b (q i) u ↔ gr_ws e m i u := by
  rw [h i hi u hu]
  constructor
  · intro z
    rcases z with ⟨z, _⟩ | ⟨_, z⟩
    · omega
    · exact z
  · intro z
    exact Or.inr ⟨by omega, z⟩
theorem xc_T {e : Nat → Nat → Prop} {m i : Nat} {q : Nat → Int64} (h : xc_I e m i q) (hm : m < 64) (hi : i < 64) (p : lb_b (q i) m) : xc_I e m (i + 1) (vp_updL q i (q i ||| q m)) := by
  intro s hs u hu
  by_cases c : s = i
  · subst c
    rw [pk_uLs, lb_or, xc_i h hs hu, xc_m h hm hu]
    rw [xc_i h hs hm] at p
    constructor
    · intro z
      rcases z with z | z
      · exact Or.inl ⟨by omega, Or.inl z⟩
      · exact Or.inl ⟨by omega, Or.inr ⟨p, z⟩⟩
    · intro z
      rcases z with ⟨_, z⟩ | ⟨z, _⟩
      · rcases z with z | z
        · exact Or.inl z
        · exact Or.inr z.2
      · omega
  · rw [pk_uLn c, h s hs u hu]
    constructor
    · intro z
      rcases z with ⟨z1, z⟩ | ⟨z1, z⟩
      · exact Or.inl ⟨by omega, z⟩
      · exact Or.inr ⟨by omega, z⟩
    · intro z
      rcases z with ⟨z1, z⟩ | ⟨z1, z⟩
      · exact Or.inl ⟨by omega, z⟩
      · exact Or.inr ⟨by omega, z⟩
theorem xc_F {e : Nat → Nat → Prop} {m i : Nat} {q : Nat → Int64} (h : xc_I e m i q) (hm : m < 64) (hi : i < 64) (p : ¬ lb_b (q i) m) : xc_I e m (i + 1) q := by
  intro s hs u hu
  by_cases c : s = i
  · subst c
    rw [xc_i h hs hu]
    rw [xc_i h hs hm] at p
    constructor
    · intro z
      exact Or.inl ⟨by omega, Or.inl z⟩
    · intro z
      rcases z with ⟨_, z⟩ | ⟨z, _⟩
      · rcases z with z | z
        · exact z
        · exact absurd z.1 p
      · omega
  · rw [h s hs u hu]
    constructor
    · intro z
      rcases z with ⟨z1, z⟩ | ⟨z1, z⟩
      · exact Or.inl ⟨by omega, z⟩
      · exact Or.inr ⟨by omega, z⟩
    · intro z
      rcases z with ⟨z1, z⟩ | ⟨z1, z⟩
      · exact Or.inl ⟨by omega, z⟩
      · exact Or.inr ⟨by omega, z⟩
theorem xc_S {e : Nat → Nat → Prop} {m : Nat} {q : Nat → Int64} (h : xc_I e m 64 q) : xc_I e (m + 1) 0 q := by
  intro s hs u hu
  rw [h s hs u hu]
  constructor
  · intro z
    rcases z with ⟨_, z⟩ | ⟨z1, _⟩
    · exact Or.inr ⟨by omega, z⟩
    · omega
  · intro z
    rcases z with ⟨z1, _⟩ | ⟨_, z⟩
    · omega
    · exact Or.inl ⟨hs, z⟩
theorem xc_0 {e : Nat → Nat → Prop} {q : Nat → Int64} (h : ∀ s, s < 64 → ∀ u, u < 64 → (lb_b (q s) u ↔ e s u)) : xc_I e 0 0 q := by
  intro s hs u hu
  rw [h s hs u hu]
  constructor
  · intro z
    exact Or.inr ⟨by omega, z⟩
  · intro z
    rcases z with ⟨z1, _⟩ | ⟨_, z⟩
    · omega
    · exact z
theorem xc_X {e : Nat → Nat → Prop} {q : Nat → Int64} (h : xc_I e 64 0 q) : ∀ s, s < 64 → ∀ u, u < 64 → (lb_b (q s) u ↔ gr_ws e 64 s u) := by
  intro s hs u hu
  rw [h s hs u hu]
  constructor
  · intro z
    rcases z with ⟨z1, _⟩ | ⟨_, z⟩
    · omega
    · exact z
  · intro z
    exact Or.inr ⟨by omega, z⟩
