/-! ===== what a loop's rounds can do: from t, where the test holds, to every end of the body ===== -/
def sp_e (E : Nat → Int64) (T : Int64) (y : Nat) : Nat → Nat → Prop := fun t u => lb_b T t ∧ lb_b (E (64 * y + t)) u
theorem sp_e64 {E : Nat → Int64} {T : Int64} {y : Nat} : ∀ t u, sp_e E T y t u → u < 64 := fun _ _ h => lb_lt h.2
theorem sp_eT {E : Nat → Int64} {T : Int64} {y : Nat} : ∀ t u, sp_e E T y t u → lb_b T t := fun _ _ h => h.1
theorem sp_R64 {E : Nat → Int64} {T : Int64} {y s t : Nat} (hs : s < 64) (h : gr_R (sp_e E T y) s t) : t < 64 := by
  obtain ⟨n, h⟩ := h
  exact gr_in sp_e64 n s t hs h
theorem sp_infT {E : Nat → Int64} {T : Int64} {y t : Nat} (h : gr_inf (sp_e E T y) t) : lb_b T t := by
  obtain ⟨u, e, _⟩ := gr_infN h
  exact e.1
noncomputable def sp_WE (E : Nat → Int64) (T : Int64) (y s : Nat) : Int64 := lb_S (fun u => gr_R (sp_e E T y) s u ∧ ¬ lb_b T u)
def sp_WF (E : Nat → Int64) (T f : Int64) (y s : Nat) : Prop := ∃ t, gr_R (sp_e E T y) s t ∧ lb_b T t ∧ lb_b f t
def sp_WG (E : Nat → Int64) (T g : Int64) (y s : Nat) : Prop := ∃ t, gr_R (sp_e E T y) s t ∧ lb_b T t ∧ (lb_b g t ∨ gr_inf (sp_e E T y) t)
/-- what both ways of working a loop out leave: what can be come to in one round or more, and states that stand for going on for ever -/
def sp_L (E : Nat → Int64) (T : Int64) (y : Nat) (q : Nat → Int64) (w : Int64) : Prop :=
  (∀ s, s < 64 → ∀ u, u < 64 → (lb_b (q s) u ↔ gr_P (sp_e E T y) s u)) ∧ ∀ s, s < 64 → ((∃ t, gr_R (sp_e E T y) s t ∧ lb_b w t) ↔ ∃ t, gr_R (sp_e E T y) s t ∧ gr_inf (sp_e E T y) t)
theorem sp_LR {E : Nat → Int64} {T : Int64} {y : Nat} {q : Nat → Int64} {w : Int64} (h : sp_L E T y q w) {s : Nat} (hs : s < 64) {u : Nat} (hu : u < 64) : lb_b (q s ||| ((1 : Int64) <<< ((nI s).toInt64 &&& 63))) u ↔ gr_R (sp_e E T y) s u := by
  rw [lb_or, h.1 s hs u hu, lb_shl hs, gr_RP]
  exact ⟨fun z => z.elim Or.inl (fun e => Or.inr e.symm), fun z => z.elim Or.inl (fun e => Or.inr e.symm)⟩
theorem sp_LE {E : Nat → Int64} {T : Int64} {y : Nat} {q : Nat → Int64} {w : Int64} (h : sp_L E T y q w) {s : Nat} (hs : s < 64) : (q s ||| ((1 : Int64) <<< ((nI s).toInt64 &&& 63))) &&& (T ^^^ (-1)) = sp_WE E T y s := by
  apply lb_Se
  intro j hj
  rw [lb_and, sp_LR h hs hj, lb_not T hj]
theorem sp_LF {E : Nat → Int64} {T f : Int64} {y : Nat} {q : Nat → Int64} {w : Int64} (h : sp_L E T y q w) {s : Nat} (hs : s < 64) : (¬ (q s ||| ((1 : Int64) <<< ((nI s).toInt64 &&& 63))) &&& (f &&& T) = 0) ↔ sp_WF E T f y s := by
  rw [lb_nz]
  constructor
  · intro z
    obtain ⟨j, hj, z⟩ := z
    rw [lb_and, lb_and, sp_LR h hs hj] at z
    exact ⟨j, z.1, z.2.2, z.2.1⟩
  · intro z
    obtain ⟨j, h1, h2, h3⟩ := z
    have hj := lb_lt h2
    refine ⟨j, hj, ?_⟩
    rw [lb_and, lb_and, sp_LR h hs hj]
    exact ⟨h1, h3, h2⟩
theorem sp_LG {E : Nat → Int64} {T g : Int64} {y : Nat} {q : Nat → Int64} {w : Int64} (h : sp_L E T y q w) {s : Nat} (hs : s < 64) : (¬ (q s ||| ((1 : Int64) <<< ((nI s).toInt64 &&& 63))) &&& (w ||| (g &&& T)) = 0) ↔ sp_WG E T g y s := by
  rw [lb_nz]
  constructor
  · intro z
    obtain ⟨j, hj, z⟩ := z
    rw [lb_and, sp_LR h hs hj, lb_or, lb_and] at z
    rcases z with ⟨z1, z2 | z2⟩
    · obtain ⟨t, h1, h2⟩ := (h.2 s hs).mp ⟨j, z1, z2⟩
      exact ⟨t, h1, sp_infT h2, Or.inr h2⟩
    · exact ⟨j, z1, z2.2, Or.inl z2.1⟩
  · intro z
    obtain ⟨t, h1, h2, h3⟩ := z
    rcases h3 with h3 | h3
    · have hj := lb_lt h2
      refine ⟨t, hj, ?_⟩
      rw [lb_and, sp_LR h hs hj, lb_or, lb_and]
      exact ⟨h1, Or.inr ⟨h3, h2⟩⟩
    · obtain ⟨j, h4, h5⟩ := (h.2 s hs).mpr ⟨t, h1, h3⟩
      have hj := lb_lt h5
      refine ⟨j, hj, ?_⟩
      rw [lb_and, sp_LR h hs hj, lb_or, lb_and]
      exact ⟨h4, Or.inl h5⟩
/-- walked round by round -/
theorem sp_walk {E : Nat → Int64} {T : Int64} {y : Nat} {q : Nat → Int64} {w : Int64} (h1 : ∀ s, s < 64 → ∀ u, u < 64 → (lb_b (q s) u ↔ ∃ k, k < 64 ∧ gr_pth (sp_e E T y) (k + 1) s u)) (h2 : ∀ s, s < 64 → (lb_b w s ↔ ∃ u, gr_pth (sp_e E T y) 64 s u ∧ lb_b T u)) : sp_L E T y q w := by
  constructor
  · intro s hs u hu
    rw [h1 s hs u hu]
    constructor
    · intro z
      obtain ⟨k, _, z⟩ := z
      exact ⟨k, z⟩
    · intro z
      exact gr_short sp_e64 hs z
  · intro s hs
    rw [← gr_B sp_e64 sp_eT hs]
    constructor
    · intro z
      obtain ⟨t, z1, z2⟩ := z
      exact ⟨t, z1, (h2 t (lb_lt z2)).mp z2⟩
    · intro z
      obtain ⟨t, z1, z2⟩ := z
      exact ⟨t, z1, (h2 t (sp_R64 hs z1)).mpr z2⟩
/-- closed once for all states -/
theorem sp_close {E : Nat → Int64} {T : Int64} {y : Nat} {q : Nat → Int64} {w : Int64} (h1 : ∀ s, s < 64 → ∀ u, u < 64 → (lb_b (q s) u ↔ gr_ws (sp_e E T y) 64 s u)) (h2 : ∀ s, s < 64 → (lb_b w s ↔ lb_b (q s) s)) : sp_L E T y q w := by
  have h3 : ∀ s, s < 64 → ∀ u, u < 64 → (lb_b (q s) u ↔ gr_P (sp_e E T y) s u) := fun s hs u hu => (h1 s hs u hu).trans (gr_ws_64 sp_e64)
  refine ⟨h3, ?_⟩
  intro s hs
  rw [← gr_A sp_e64 hs]
  constructor
  · intro z
    obtain ⟨t, z1, z2⟩ := z
    have ht := lb_lt z2
    exact ⟨t, z1, (h3 t ht t ht).mp ((h2 t ht).mp z2)⟩
  · intro z
    obtain ⟨t, z1, z2⟩ := z
    have ht := sp_R64 hs z1
    exact ⟨t, z1, (h2 t ht).mpr ((h3 t ht t ht).mpr z2)⟩
/-- one step of the walk -/
theorem sp_wstep {E : Nat → Int64} {T : Int64} {y s r : Nat} {now now' : Int64} (hs : s < 64) (h : ∀ u, u < 64 → (lb_b now u ↔ gr_pth (sp_e E T y) r s u)) (h' : ∀ u, u < 64 → (lb_b now' u ↔ ∃ t, t < 64 ∧ lb_b (now &&& T) t ∧ lb_b (E (64 * y + t)) u)) : ∀ u, u < 64 → (lb_b now' u ↔ gr_pth (sp_e E T y) (r + 1) s u) := by
  intro u hu
  rw [h' u hu]
  constructor
  · intro z
    obtain ⟨t, ht, z1, z2⟩ := z
    rw [lb_and, h t ht] at z1
    exact gr_snoc z1.1 ⟨z1.2, z2⟩
  · intro z
    obtain ⟨t, z1, z2⟩ := gr_unsnoc _ _ _ z
    have ht := lb_lt z2.1
    refine ⟨t, ht, ?_, z2.2⟩
    rw [lb_and, h t ht]
    exact ⟨z1, z2.1⟩
/-! ===== the six kinds of states ===== -/
def sp_K (E fs gs cs : Nat → Int64) (p c : Nat) (s : Nat) : Nat → Prop
  | 0 => ¬ lb_b (fs p) s ∧ ¬ lb_b (gs p) s ∧ ∀ t, t < 64 → lb_b (E (64 * p + s)) t → lb_b (cs c) t
  | 1 => ¬ lb_b (fs p) s ∧ ∀ t, t < 64 → lb_b (E (64 * p + s)) t → lb_b (cs c) t
  | 2 => ∃ t, t < 64 ∧ lb_b (E (64 * p + s)) t ∧ lb_b (cs c) t
  | 3 => lb_b (fs p) s
  | 4 => lb_b (gs p) s
  | _ => ¬ lb_b (fs p) s ∧ ¬ lb_b (gs p) s ∧ E (64 * p + s) = 0
theorem sp_meN {E cs : Nat → Int64} {p c s : Nat} : (¬ E (64 * p + s) &&& (cs c ^^^ (-1)) = 0) ↔ ¬ ∀ t, t < 64 → lb_b (E (64 * p + s)) t → lb_b (cs c) t := by
  rw [lb_nz]
  constructor
  · intro h z
    obtain ⟨j, hj, h⟩ := h
    rw [lb_and, lb_not _ hj] at h
    exact h.2 (z j hj h.1)
  · intro h
    apply Classical.byContradiction
    intro z
    apply h
    intro t ht hb
    apply Classical.byContradiction
    intro y
    apply z
    refine ⟨t, ht, ?_⟩
    rw [lb_and, lb_not _ ht]
    exact ⟨hb, y⟩
theorem sp_meP {E cs : Nat → Int64} {p c s : Nat} : (¬ E (64 * p + s) &&& cs c = 0) ↔ ∃ t, t < 64 ∧ lb_b (E (64 * p + s)) t ∧ lb_b (cs c) t := by
  rw [lb_nz]
  constructor
  · intro h
    obtain ⟨j, hj, h⟩ := h
    rw [lb_and] at h
    exact ⟨j, hj, h⟩
  · intro h
    obtain ⟨j, hj, h⟩ := h
    refine ⟨j, hj, ?_⟩
    rw [lb_and]
    exact h
theorem sp_meA {E : Nat → Int64} {p s : Nat} : (¬ E (64 * p + s) &&& (-1) = 0) ↔ ¬ E (64 * p + s) = 0 := by
  have e : E (64 * p + s) &&& (-1) = E (64 * p + s) := by
    apply lb_ext
    intro j hj
    rw [lb_and]
    exact ⟨fun h => h.1, fun h => ⟨h, lb_m1 hj⟩⟩
  rw [e]
