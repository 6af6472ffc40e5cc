/-! ===== reach: the states of w come to b; g tells whether one was new ===== -/
def sr_ri (w : Int64) (b : Nat → Int32) (g : Int32) (i : Nat) (b' : Nat → Int32) (g' : Int32) : Prop :=
  (∀ u, u < 64 → b' u = lb_i (¬ b u = 0 ∨ (u < i ∧ lb_b w u))) ∧ ((g' = g ∧ ∀ u, u < i → lb_b w u → ¬ b u = 0) ∨ (g' = 1 ∧ ∃ u, u < i ∧ lb_b w u ∧ b u = 0))
theorem sr_r0 {w : Int64} {b : Nat → Int32} {g : Int32} (h : ∀ u, u < 64 → b u = lb_i (¬ b u = 0)) : sr_ri w b g 0 b g := by
  refine ⟨fun u hu => ?_, Or.inl ⟨rfl, fun u hu => by omega⟩⟩
  refine (h u hu).trans (lb_ic ⟨Or.inl, fun z => z.elim id (fun z => ?_)⟩)
  exact absurd z.1 (by omega)
theorem sr_rn {w : Int64} {b b' : Nat → Int32} {g g' : Int32} {i : Nat} (h : sr_ri w b g i b' g') (n : ¬ lb_b w i) : sr_ri w b g (i + 1) b' g' := by
  obtain ⟨h1, h2⟩ := h
  refine ⟨fun u hu => ?_, ?_⟩
  · refine (h1 u hu).trans (lb_ic ⟨fun z => z.elim Or.inl (fun z => Or.inr ⟨by omega, z.2⟩), fun z => z.elim Or.inl (fun z => Or.inr ⟨?_, z.2⟩)⟩)
    by_cases e : u = i
    · subst e; exact absurd z.2 n
    · omega
  · rcases h2 with ⟨h2, h3⟩ | ⟨h2, u, h3, h4⟩
    · refine Or.inl ⟨h2, fun u hu hb => ?_⟩
      by_cases e : u = i
      · subst e; exact absurd hb n
      · exact h3 u (by omega) hb
    · exact Or.inr ⟨h2, u, by omega, h4⟩
theorem sr_ro {w : Int64} {b b' : Nat → Int32} {g g' : Int32} {i : Nat} (hi : i < 64) (h : sr_ri w b g i b' g') (n : ¬ b' i = 0) : sr_ri w b g (i + 1) b' g' := by
  obtain ⟨h1, h2⟩ := h
  have hb : ¬ b i = 0 := by
    rw [h1 i hi] at n
    exact (lb_in.mp n).elim id (fun z => absurd z.1 (by omega))
  refine ⟨fun u hu => ?_, ?_⟩
  · refine (h1 u hu).trans (lb_ic ⟨fun z => z.elim Or.inl (fun z => Or.inr ⟨by omega, z.2⟩), fun z => z.elim Or.inl (fun z => ?_)⟩)
    by_cases e : u = i
    · subst e; exact Or.inl hb
    · exact Or.inr ⟨by omega, z.2⟩
  · rcases h2 with ⟨h2, h3⟩ | ⟨h2, u, h3, h4⟩
    · refine Or.inl ⟨h2, fun u hu hw => ?_⟩
      by_cases e : u = i
      · subst e; exact hb
      · exact h3 u (by omega) hw
    · exact Or.inr ⟨h2, u, by omega, h4⟩
theorem sr_rt {w : Int64} {b b' : Nat → Int32} {g g' : Int32} {i : Nat} (hi : i < 64) (h : sr_ri w b g i b' g') (p : lb_b w i) (n : b' i = 0) : sr_ri w b g (i + 1) (upd b' i 1) 1 := by
  obtain ⟨h1, h2⟩ := h
  have hb : b i = 0 := by
    rw [h1 i hi] at n
    exact Classical.byContradiction (fun z => lb_iz.mp n (Or.inl z))
  refine ⟨fun u hu => ?_, Or.inr ⟨rfl, i, by omega, p, hb⟩⟩
  by_cases e : u = i
  · subst e
    rw [pk_us, lb_i1 (Or.inr ⟨by omega, p⟩)]
  · rw [pk_un e]
    exact (h1 u hu).trans (lb_ic ⟨fun z => z.elim Or.inl (fun z => Or.inr ⟨by omega, z.2⟩), fun z => z.elim Or.inl (fun z => Or.inr ⟨by omega, z.2⟩)⟩)
/-! ===== one pass of spread ===== -/
def sr_J (E : Nat → Int64) (T : Int64) (y s : Nat) (B : Nat → Prop) (i : Nat) (b : Nat → Int32) (g : Int32) : Prop :=
  ∃ Q : Nat → Prop, (∀ u, u < 64 → b u = lb_i (Q u)) ∧ (∀ u, B u → Q u) ∧ (∀ u, Q u → gr_R (sp_e E T y) s u) ∧ ((g = 0 ∧ (∀ u, Q u → B u) ∧ ∀ t u, t < i → B t → sp_e E T y t u → B u) ∨ (g = 1 ∧ gr_sz B 64 < gr_sz Q 64))
theorem sr_Jb {E : Nat → Int64} {T : Int64} {y s : Nat} {B : Nat → Prop} {i : Nat} {b : Nat → Int32} {g : Int32} (h : sr_J E T y s B i b g) : ∀ u, u < 64 → b u = lb_i (¬ b u = 0) := by
  obtain ⟨Q, h1, _⟩ := h
  intro u hu
  have e := h1 u hu
  exact e.trans (lb_ic ⟨fun q => by rw [e]; exact lb_in.mpr q, fun z => by rw [e] at z; exact lb_in.mp z⟩)
theorem sr_Jn {E : Nat → Int64} {T : Int64} {y s : Nat} {B : Nat → Prop} {i : Nat} {b : Nat → Int32} {g : Int32} (hi : i < 64) (h : sr_J E T y s B i b g) (n : b i = 0 ∨ ¬ lb_b T i) : sr_J E T y s B (i + 1) b g := by
  obtain ⟨Q, h1, h2, h3, h4⟩ := h
  refine ⟨Q, h1, h2, h3, ?_⟩
  rcases h4 with ⟨h4, h5, h6⟩ | h4
  · refine Or.inl ⟨h4, h5, fun t u ht hb he => ?_⟩
    by_cases e : t = i
    · subst e
      rcases n with n | n
      · rw [h1 t hi] at n
        exact absurd (h2 t hb) (lb_iz.mp n)
      · exact absurd he.1 n
    · exact h6 t u (by omega) hb he
  · exact Or.inr h4
theorem sr_Jr {E : Nat → Int64} {T : Int64} {y s : Nat} {B : Nat → Prop} {i : Nat} {b b' : Nat → Int32} {g g' : Int32} (hi : i < 64) (h : sr_J E T y s B i b g) (n : ¬ b i = 0) (p : lb_b T i) (r : sr_ri (E (64 * y + i)) b g 64 b' g') : sr_J E T y s B (i + 1) b' g' := by
  obtain ⟨Q, h1, h2, h3, h4⟩ := h
  obtain ⟨r1, r2⟩ := r
  have hQ : ∀ u, u < 64 → (¬ b u = 0 ↔ Q u) := fun u hu => by rw [h1 u hu]; exact lb_in
  have hi2 : Q i := (hQ i hi).mp n
  refine ⟨fun u => Q u ∨ lb_b (E (64 * y + i)) u, fun u hu => ?_, fun u hu => Or.inl (h2 u hu), fun u hu => ?_, ?_⟩
  · refine (r1 u hu).trans (lb_ic ?_)
    rw [hQ u hu]
    exact ⟨fun z => z.elim Or.inl (fun z => Or.inr z.2), fun z => z.elim Or.inl (fun z => Or.inr ⟨hu, z⟩)⟩
  · rcases hu with hu | hu
    · exact h3 u hu
    · exact gr_Rs (h3 i hi2) ⟨p, hu⟩
  · rcases r2 with ⟨r2, r3⟩ | ⟨r2, v, hv, r3, r4⟩
    · rcases h4 with ⟨h4, h5, h6⟩ | ⟨h4, h5⟩
      · refine Or.inl ⟨r2.trans h4, fun u hu => ?_, fun t u ht hb he => ?_⟩
        · rcases hu with hu | hu
          · exact h5 u hu
          · have hl := lb_lt hu
            exact h5 u ((hQ u hl).mp (r3 u hl hu))
        · by_cases e : t = i
          · subst e
            have hl := lb_lt he.2
            exact h5 u ((hQ u hl).mp (r3 u hl he.2))
          · exact h6 t u (by omega) hb he
      · refine Or.inr ⟨r2.trans h4, Nat.lt_of_lt_of_le h5 (gr_sz_mono 64 (fun u _ hu => Or.inl hu))⟩
    · refine Or.inr ⟨r2, ?_⟩
      have hq : ¬ Q v := fun z => (hQ v hv).mpr z r4
      exact gr_sz_lt 64 (fun u _ hu => Or.inl (h2 u hu)) v hv (Or.inr r3) (fun z => hq (h2 v z))
/-! ===== the passes of spread ===== -/
def sr_K (E : Nat → Int64) (T : Int64) (y s : Nat) (k : Nat) (b : Nat → Int32) (g : Int32) : Prop :=
  ∃ B : Nat → Prop, (∀ u, u < 64 → b u = lb_i (B u)) ∧ B s ∧ (∀ u, B u → gr_R (sp_e E T y) s u) ∧ ((g = 1 ∧ k + 1 ≤ gr_sz B 64) ∨ (g = 0 ∧ ∀ t u, B t → sp_e E T y t u → B u))
theorem sr_K0 {E : Nat → Int64} {T : Int64} {y s : Nat} {b : Nat → Int32} (hs : s < 64) (h : ∀ u, u < 64 → b u = lb_i (u = s)) : sr_K E T y s 0 b 1 := by
  refine ⟨fun u => u = s, h, rfl, fun u hu => ?_, Or.inl ⟨rfl, ?_⟩⟩
  · have hu : u = s := hu
    subst hu
    exact gr_Rr u
  · exact gr_sz_pos (P := fun u => u = s) hs rfl
theorem sr_KJ {E : Nat → Int64} {T : Int64} {y s k : Nat} {b : Nat → Int32} {g : Int32} (h : sr_K E T y s k b g) (n : ¬ g = 0) : ∃ B : Nat → Prop, sr_J E T y s B 0 b 0 ∧ B s ∧ k + 1 ≤ gr_sz B 64 := by
  obtain ⟨B, h1, h2, h3, h4⟩ := h
  rcases h4 with ⟨_, h4⟩ | ⟨h4, _⟩
  · exact ⟨B, ⟨B, h1, fun _ z => z, h3, Or.inl ⟨rfl, fun _ z => z, fun t u ht => by omega⟩⟩, h2, h4⟩
  · exact absurd h4 n
theorem sr_JK {E : Nat → Int64} {T : Int64} {y s k : Nat} {b : Nat → Int32} {g : Int32} {B : Nat → Prop} (hs : s < 64) (h : sr_J E T y s B 64 b g) (h2 : B s) (h3 : k + 1 ≤ gr_sz B 64) : sr_K E T y s (k + 1) b g := by
  obtain ⟨Q, q1, q2, q3, q4⟩ := h
  refine ⟨Q, q1, q2 s h2, q3, ?_⟩
  rcases q4 with ⟨q4, q5, q6⟩ | ⟨q4, q5⟩
  · refine Or.inr ⟨q4, fun t u ht he => ?_⟩
    have hl := sp_R64 hs (q3 t ht)
    exact q2 u (q6 t u hl (q5 t ht) he)
  · exact Or.inl ⟨q4, by omega⟩
theorem sr_Kx {E : Nat → Int64} {T : Int64} {y s k : Nat} {b : Nat → Int32} {g : Int32} (h : sr_K E T y s k b g) (x : g = 0 ∨ 64 ≤ k) : ∀ u, u < 64 → b u = lb_i (gr_R (sp_e E T y) s u) := by
  obtain ⟨B, h1, h2, h3, h4⟩ := h
  have hc : ∀ t u, B t → sp_e E T y t u → B u := by
    rcases h4 with ⟨h4, h5⟩ | ⟨_, h5⟩
    · rcases x with x | x
      · rw [h4] at x; exact absurd x (by decide)
      · have := gr_sz_le B 64
        omega
    · exact h5
  intro u hu
  exact (h1 u hu).trans (lb_ic ⟨h3 u, fun z => gr_clo h2 hc z⟩)
/-! ===== findRounds: one pass, and the passes ===== -/
def sr_H (E : Nat → Int64) (y : Nat) (r : Nat → Int32) (t : Nat) : Prop := ∃ u, u < 64 ∧ lb_b (E (64 * y + t)) u ∧ ¬ r u = 0
def sr_M (E : Nat → Int64) (T : Int64) (y s : Nat) (A : Nat → Prop) (i : Nat) (r : Nat → Int32) (g : Int32) : Prop :=
  ∃ Q : Nat → Prop, (∀ u, u < 64 → r u = lb_i (Q u)) ∧ (∀ u, Q u → A u) ∧ (∀ u, gr_R (sp_e E T y) s u → gr_inf (sp_e E T y) u → Q u) ∧ ((g = 0 ∧ (∀ u, A u → Q u) ∧ ∀ t, t < i → A t → ∃ u, lb_b (E (64 * y + t)) u ∧ A u) ∨ (g = 1 ∧ gr_sz Q 64 < gr_sz A 64))
theorem sr_Mn {E : Nat → Int64} {T : Int64} {y s : Nat} {A : Nat → Prop} {i : Nat} {r : Nat → Int32} {g : Int32} (hi : i < 64) (h : sr_M E T y s A i r g) (n : r i = 0 ∨ sr_H E y r i) : sr_M E T y s A (i + 1) r g := by
  obtain ⟨Q, h1, h2, h3, h4⟩ := h
  refine ⟨Q, h1, h2, h3, ?_⟩
  rcases h4 with ⟨h4, h5, h6⟩ | h4
  · refine Or.inl ⟨h4, h5, fun t ht ha => ?_⟩
    by_cases e : t = i
    · subst e
      rcases n with n | n
      · rw [h1 t hi] at n
        exact absurd (h5 t ha) (lb_iz.mp n)
      · obtain ⟨u, hu, n1, n2⟩ := n
        rw [h1 u hu] at n2
        exact ⟨u, n1, h2 u (lb_in.mp n2)⟩
    · exact h6 t (by omega) ha
  · exact Or.inr h4
theorem sr_Mr {E : Nat → Int64} {T : Int64} {y s : Nat} {A : Nat → Prop} {i : Nat} {r : Nat → Int32} {g : Int32} (hi : i < 64) (h : sr_M E T y s A i r g) (n : ¬ r i = 0) (z : ¬ sr_H E y r i) : sr_M E T y s A (i + 1) (upd r i 0) 1 := by
  obtain ⟨Q, h1, h2, h3, h4⟩ := h
  have hq : Q i := by rw [h1 i hi] at n; exact lb_in.mp n
  refine ⟨fun u => Q u ∧ u ≠ i, fun u hu => ?_, fun u hu => h2 u hu.1, fun u hu hf => ⟨h3 u hu hf, fun e => ?_⟩, Or.inr ⟨rfl, ?_⟩⟩
  · by_cases e : u = i
    · subst e
      rw [pk_us, lb_i0 (fun z => z.2 rfl)]
    · rw [pk_un e]
      exact (h1 u hu).trans (lb_ic ⟨fun q => ⟨q, e⟩, fun q => q.1⟩)
  · subst e
    obtain ⟨v, e1, e2⟩ := gr_infN hf
    have hv := lb_lt e1.2
    have hq2 := h3 v (gr_Rs hu e1) e2
    exact z ⟨v, hv, e1.2, by rw [h1 v hv]; exact lb_in.mpr hq2⟩
  · have a1 : gr_sz (fun u => Q u ∧ u ≠ i) 64 < gr_sz Q 64 := gr_sz_lt 64 (fun u _ hu => hu.1) i hi hq (fun z => z.2 rfl)
    have a2 : gr_sz Q 64 ≤ gr_sz A 64 := gr_sz_mono 64 (fun u _ hu => h2 u hu)
    omega
def sr_N (E : Nat → Int64) (T : Int64) (y s : Nat) (k : Nat) (r : Nat → Int32) (g : Int32) : Prop :=
  ∃ A : Nat → Prop, (∀ u, u < 64 → r u = lb_i (A u)) ∧ (∀ u, A u → gr_R (sp_e E T y) s u ∧ lb_b T u) ∧ (∀ u, gr_R (sp_e E T y) s u → gr_inf (sp_e E T y) u → A u) ∧ ((g = 1 ∧ gr_sz A 64 + k ≤ 64) ∨ (g = 0 ∧ ∀ t, A t → ∃ u, lb_b (E (64 * y + t)) u ∧ A u))
theorem sr_N0 {E : Nat → Int64} {T : Int64} {y s : Nat} {r : Nat → Int32} (h : ∀ u, u < 64 → r u = lb_i (gr_R (sp_e E T y) s u ∧ lb_b T u)) : sr_N E T y s 0 r 1 := by
  have k := gr_sz_le (fun u => gr_R (sp_e E T y) s u ∧ lb_b T u) 64
  exact ⟨fun u => gr_R (sp_e E T y) s u ∧ lb_b T u, h, fun _ z => z, fun _ h1 h2 => ⟨h1, sp_infT h2⟩, Or.inl ⟨rfl, by rw [Nat.add_zero]; exact k⟩⟩
theorem sr_NM {E : Nat → Int64} {T : Int64} {y s k : Nat} {r : Nat → Int32} {g : Int32} (h : sr_N E T y s k r g) (n : ¬ g = 0) : ∃ A : Nat → Prop, sr_M E T y s A 0 r 0 ∧ (∀ u, A u → gr_R (sp_e E T y) s u ∧ lb_b T u) ∧ gr_sz A 64 + k ≤ 64 := by
  obtain ⟨A, h1, h2, h3, h4⟩ := h
  rcases h4 with ⟨_, h4⟩ | ⟨h4, _⟩
  · exact ⟨A, ⟨A, h1, fun _ z => z, h3, Or.inl ⟨rfl, fun _ z => z, fun t ht => by omega⟩⟩, h2, h4⟩
  · exact absurd h4 n
theorem sr_MN {E : Nat → Int64} {T : Int64} {y s k : Nat} {r : Nat → Int32} {g : Int32} {A : Nat → Prop} (hs : s < 64) (h : sr_M E T y s A 64 r g) (h2 : ∀ u, A u → gr_R (sp_e E T y) s u ∧ lb_b T u) (h3 : gr_sz A 64 + k ≤ 64) : sr_N E T y s (k + 1) r g := by
  obtain ⟨Q, q1, q2, q3, q4⟩ := h
  refine ⟨Q, q1, fun u hu => h2 u (q2 u hu), q3, ?_⟩
  rcases q4 with ⟨q4, q5, q6⟩ | ⟨q4, q5⟩
  · refine Or.inr ⟨q4, fun t ht => ?_⟩
    have ha := q2 t ht
    have hl := sp_R64 hs (h2 t ha).1
    obtain ⟨u, e, hu⟩ := q6 t hl ha
    exact ⟨u, e, q5 u hu⟩
  · exact Or.inl ⟨q4, by omega⟩
theorem sr_Nx {E : Nat → Int64} {T : Int64} {y s k : Nat} {r : Nat → Int32} {g : Int32} (hs : s < 64) (h : sr_N E T y s k r g) (x : g = 0 ∨ 64 ≤ k) : ∀ u, u < 64 → r u = lb_i (gr_R (sp_e E T y) s u ∧ gr_inf (sp_e E T y) u) := by
  obtain ⟨A, h1, h2, h3, h4⟩ := h
  have hc : ∀ t, A t → ∃ u, lb_b (E (64 * y + t)) u ∧ A u := by
    rcases h4 with ⟨h4, h5⟩ | ⟨_, h5⟩
    · rcases x with x | x
      · rw [h4] at x; exact absurd x (by decide)
      · intro t ht
        have hl := sp_R64 hs (h2 t ht).1
        have := gr_sz_pos hl ht
        omega
    · exact h5
  intro u hu
  refine (h1 u hu).trans (lb_ic ⟨fun z => ⟨(h2 u z).1, A, z, fun t ht => ?_⟩, fun z => h3 u z.1 z.2⟩)
  obtain ⟨v, e, hv⟩ := hc t ht
  exact ⟨v, ⟨(h2 t ht).2, e⟩, hv⟩
